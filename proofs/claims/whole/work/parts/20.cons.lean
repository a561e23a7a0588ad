/-! The constructors, step by step -/
section JCO
variable {X : jX} {d : Nat} {es : List jE} {pc : Nat} {pl : jPL} {st : List Value} {Q : Option Value → jS → Prop} {len a b w z : Nat} {y : Int32 × Int64 × List (Int32 × Nat)} {o n0 m : Nat} {R : jR} {h : jH}
def jhn (h : jH) (m : Nat) : jH := (jcr h.1 m 0, jcr h.2 m 0)
theorem jx_newo (hf : jfe es pc = some (pc, .new z, len, (a, b, 0, w), y)) (hm : n0 + 1 = m) (h1 : m < 1000) (h2 : (jsh m).1 = a) (kk : jEx X d es (pc + len) pl (.ref m :: st) (m, jcr R m 0, jhn h m) Q) : jEx X d es pc pl st (n0, R, h) Q := by
  subst hm
  refine jx_next hf ?_ kk
  simp only [jstep, jnob]
  rw [if_pos ⟨h1, h2⟩]
  rfl
theorem jx_newa {i : Int32} {t : ArrayType} (hf : jfe es pc = some (pc, .newarray t, len, (a, b, 0, w), y)) (hm : n0 + 1 = m) (h1 : m < 1000) (h2 : (jsh m).1 = a) (h3 : ¬ i < 0 ∧ i.toNatClampNeg = (jsh m).2) (kk : jEx X d es (pc + len) pl (.ref m :: st) (m, jcr R m 0, jhn h m) Q) : jEx X d es pc pl (.int i :: st) (n0, R, h) Q := by
  subst hm
  refine jx_next hf ?_ kk
  simp only [jstep, jnar]
  rw [if_pos ⟨h1, h2, h3.1, h3.2⟩]
  rfl
theorem jx_newr {i : Int32} (hf : jfe es pc = some (pc, .anewarray z, len, (a, b, 0, w), y)) (hm : n0 + 1 = m) (h1 : m < 1000) (h2 : (jsh m).1 = a) (h3 : ¬ i < 0 ∧ i.toNatClampNeg = (jsh m).2) (kk : jEx X d es (pc + len) pl (.ref m :: st) (m, jcr R m 0, jhn h m) Q) : jEx X d es pc pl (.int i :: st) (n0, R, h) Q := by
  subst hm
  refine jx_next hf ?_ kk
  simp only [jstep, jnar]
  rw [if_pos ⟨h1, h2, h3.1, h3.2⟩]
  rfl
theorem jx_obj (hf : jfe es pc = some (pc, .invokespecial z, len, (a, b, 99, w), y)) (ho : ¬ (o = 0 ∨ ¬ (st.map fun v => v.category).sum ≤ 8)) (kk : jEx X d es (pc + len) pl st (n0, R, h) Q) : jEx X d es pc pl (.ref o :: st) (n0, R, h) Q := by
  refine jx_next hf ?_ kk
  simp only [jstep, jcall]
  rw [if_neg ho]
  rfl
theorem jx_callp {mi n c : Nat} {σ : jS} {rest : List Value} (hf : jfe es pc = some (pc, .invokespecial z, 3, (mi, n, c, w), y)) (h0 : c ≠ 0 ∧ c ≠ 99) (hd : st.drop n = .ref o :: rest) (hc : jcl σ.1 o = c) (hs : (rest.map fun v => v.category).sum ≤ 8) (kk : jCa X d mi (.ref o :: (st.take n).reverse) σ (fun r σ1 => jEx X (d + 1) es (pc + 3) pl (jpush r rest) σ1 Q)) : jEx X (d + 1) es pc pl st σ Q := by
  refine jx_call hf (vs := .ref o :: (st.take n).reverse) (rest := rest) (mi := mi) ?_ (jCa_imp kk (fun r τ hq => by rw [← jpush_eq]; exact hq))
  simp only [jstep, jcall]
  split
  · exact absurd rfl h0.1
  · exact absurd rfl h0.2
  · rw [hd]
    simp only
    rw [if_pos ⟨hc, hs⟩]
theorem jx_castv {i x v : Int32} {j q : Nat} (hf : jfe es pc = some (pc, .castore, len, (a, b, 0, w), y)) (hc : jcl n0 o = 22) (hi : jin i q) (hq : (jsh o).2 = q) (hj : i.toNatClampNeg = j) (hv : vp_nar .char x = v) (kk : jEx X d es (pc + len) pl st (n0, R, jhI h o j v) Q) : jEx X d es pc pl (.int x :: .int i :: .ref o :: st) (n0, R, h) Q := by
  subst hj; subst hv; subst hq
  exact jx_cast hf hc hi kk
theorem jx_iastv {i x : Int32} {j q : Nat} (hf : jfe es pc = some (pc, .iastore, len, (a, b, 0, w), y)) (hc : jcl n0 o = 20) (hi : jin i q) (hq : (jsh o).2 = q) (hj : i.toNatClampNeg = j) (kk : jEx X d es (pc + len) pl st (n0, R, jhI h o j x) Q) : jEx X d es pc pl (.int x :: .int i :: .ref o :: st) (n0, R, h) Q := by
  subst hj; subst hq
  exact jx_iast hf hc hi kk
theorem jx_aastv {i : Int32} {x j q : Nat} (hf : jfe es pc = some (pc, .aastore, len, (a, b, 0, w), y)) (hc : jcl n0 o = 23) (hi : jin i q) (hq : (jsh o).2 = q) (hj : i.toNatClampNeg = j) (hx : x ≤ n0 ∧ jcl n0 x = 6) (kk : jEx X d es (pc + len) pl st (n0, jup R o j x, h) Q) : jEx X d es pc pl (.ref x :: .int i :: .ref o :: st) (n0, R, h) Q := by
  subst hj; subst hq
  exact jx_aast hf hc hi hx kk
end JCO
theorem jcrange : (List.range 178).all (fun i => jsh i == jshL.getD i (0, 0)) = true := by decide +kernel
theorem jks_1 : (jsh 1).1 = 1 := by decide +kernel
theorem jss_1 : (jsh 1).2 = 16 := by decide +kernel
theorem jks_2 : (jsh 2).1 = 2 := by decide +kernel
theorem jss_2 : (jsh 2).2 = 2 := by decide +kernel
theorem jks_3 : (jsh 3).1 = 20 := by decide +kernel
theorem jss_3 : (jsh 3).2 = 1600 := by decide +kernel
theorem jks_4 : (jsh 4).1 = 2 := by decide +kernel
theorem jss_4 : (jsh 4).2 = 2 := by decide +kernel
theorem jks_5 : (jsh 5).1 = 20 := by decide +kernel
theorem jss_5 : (jsh 5).2 = 29 := by decide +kernel
theorem jks_6 : (jsh 6).1 = 3 := by decide +kernel
theorem jss_6 : (jsh 6).2 = 7 := by decide +kernel
theorem jks_7 : (jsh 7).1 = 4 := by decide +kernel
theorem jss_7 : (jsh 7).2 = 1 := by decide +kernel
theorem jks_8 : (jsh 8).1 = 5 := by decide +kernel
theorem jss_8 : (jsh 8).2 = 4 := by decide +kernel
theorem jks_9 : (jsh 9).1 = 20 := by decide +kernel
theorem jss_9 : (jsh 9).2 = 1600 := by decide +kernel
theorem jks_10 : (jsh 10).1 = 20 := by decide +kernel
theorem jss_10 : (jsh 10).2 = 64 := by decide +kernel
theorem jks_11 : (jsh 11).1 = 6 := by decide +kernel
theorem jss_11 : (jsh 11).2 = 4 := by decide +kernel
theorem jks_12 : (jsh 12).1 = 20 := by decide +kernel
theorem jss_12 : (jsh 12).2 = 8 := by decide +kernel
theorem jks_13 : (jsh 13).1 = 20 := by decide +kernel
theorem jss_13 : (jsh 13).2 = 8 := by decide +kernel
theorem jks_14 : (jsh 14).1 = 6 := by decide +kernel
theorem jss_14 : (jsh 14).2 = 4 := by decide +kernel
theorem jks_15 : (jsh 15).1 = 20 := by decide +kernel
theorem jss_15 : (jsh 15).2 = 8 := by decide +kernel
theorem jks_16 : (jsh 16).1 = 20 := by decide +kernel
theorem jss_16 : (jsh 16).2 = 8 := by decide +kernel
theorem jks_17 : (jsh 17).1 = 7 := by decide +kernel
theorem jss_17 : (jsh 17).2 = 2 := by decide +kernel
theorem jks_18 : (jsh 18).1 = 23 := by decide +kernel
theorem jss_18 : (jsh 18).2 = 20 := by decide +kernel
theorem jks_19 : (jsh 19).1 = 6 := by decide +kernel
theorem jss_19 : (jsh 19).2 = 4 := by decide +kernel
theorem jks_20 : (jsh 20).1 = 20 := by decide +kernel
theorem jss_20 : (jsh 20).2 = 8 := by decide +kernel
theorem jks_21 : (jsh 21).1 = 20 := by decide +kernel
theorem jss_21 : (jsh 21).2 = 8 := by decide +kernel
theorem jks_22 : (jsh 22).1 = 6 := by decide +kernel
theorem jss_22 : (jsh 22).2 = 4 := by decide +kernel
theorem jks_23 : (jsh 23).1 = 20 := by decide +kernel
theorem jss_23 : (jsh 23).2 = 8 := by decide +kernel
theorem jks_24 : (jsh 24).1 = 20 := by decide +kernel
theorem jss_24 : (jsh 24).2 = 8 := by decide +kernel
theorem jks_25 : (jsh 25).1 = 6 := by decide +kernel
theorem jss_25 : (jsh 25).2 = 4 := by decide +kernel
theorem jks_26 : (jsh 26).1 = 20 := by decide +kernel
theorem jss_26 : (jsh 26).2 = 8 := by decide +kernel
theorem jks_27 : (jsh 27).1 = 20 := by decide +kernel
theorem jss_27 : (jsh 27).2 = 8 := by decide +kernel
theorem jks_28 : (jsh 28).1 = 6 := by decide +kernel
theorem jss_28 : (jsh 28).2 = 4 := by decide +kernel
theorem jks_29 : (jsh 29).1 = 20 := by decide +kernel
theorem jss_29 : (jsh 29).2 = 8 := by decide +kernel
theorem jks_30 : (jsh 30).1 = 20 := by decide +kernel
theorem jss_30 : (jsh 30).2 = 8 := by decide +kernel
theorem jks_31 : (jsh 31).1 = 6 := by decide +kernel
theorem jss_31 : (jsh 31).2 = 4 := by decide +kernel
theorem jks_32 : (jsh 32).1 = 20 := by decide +kernel
theorem jss_32 : (jsh 32).2 = 8 := by decide +kernel
theorem jks_33 : (jsh 33).1 = 20 := by decide +kernel
theorem jss_33 : (jsh 33).2 = 8 := by decide +kernel
theorem jks_34 : (jsh 34).1 = 6 := by decide +kernel
theorem jss_34 : (jsh 34).2 = 4 := by decide +kernel
theorem jks_35 : (jsh 35).1 = 20 := by decide +kernel
theorem jss_35 : (jsh 35).2 = 8 := by decide +kernel
theorem jks_36 : (jsh 36).1 = 20 := by decide +kernel
theorem jss_36 : (jsh 36).2 = 8 := by decide +kernel
theorem jks_37 : (jsh 37).1 = 6 := by decide +kernel
theorem jss_37 : (jsh 37).2 = 4 := by decide +kernel
theorem jks_38 : (jsh 38).1 = 20 := by decide +kernel
theorem jss_38 : (jsh 38).2 = 8 := by decide +kernel
theorem jks_39 : (jsh 39).1 = 20 := by decide +kernel
theorem jss_39 : (jsh 39).2 = 8 := by decide +kernel
theorem jks_40 : (jsh 40).1 = 6 := by decide +kernel
theorem jss_40 : (jsh 40).2 = 4 := by decide +kernel
theorem jks_41 : (jsh 41).1 = 20 := by decide +kernel
theorem jss_41 : (jsh 41).2 = 8 := by decide +kernel
theorem jks_42 : (jsh 42).1 = 20 := by decide +kernel
theorem jss_42 : (jsh 42).2 = 8 := by decide +kernel
theorem jks_43 : (jsh 43).1 = 6 := by decide +kernel
theorem jss_43 : (jsh 43).2 = 4 := by decide +kernel
theorem jks_44 : (jsh 44).1 = 20 := by decide +kernel
theorem jss_44 : (jsh 44).2 = 8 := by decide +kernel
theorem jks_45 : (jsh 45).1 = 20 := by decide +kernel
theorem jss_45 : (jsh 45).2 = 8 := by decide +kernel
theorem jks_46 : (jsh 46).1 = 6 := by decide +kernel
theorem jss_46 : (jsh 46).2 = 4 := by decide +kernel
theorem jks_47 : (jsh 47).1 = 20 := by decide +kernel
theorem jss_47 : (jsh 47).2 = 8 := by decide +kernel
theorem jks_48 : (jsh 48).1 = 20 := by decide +kernel
theorem jss_48 : (jsh 48).2 = 8 := by decide +kernel
theorem jks_49 : (jsh 49).1 = 6 := by decide +kernel
theorem jss_49 : (jsh 49).2 = 4 := by decide +kernel
theorem jks_50 : (jsh 50).1 = 20 := by decide +kernel
theorem jss_50 : (jsh 50).2 = 8 := by decide +kernel
theorem jks_51 : (jsh 51).1 = 20 := by decide +kernel
theorem jss_51 : (jsh 51).2 = 8 := by decide +kernel
theorem jks_52 : (jsh 52).1 = 6 := by decide +kernel
theorem jss_52 : (jsh 52).2 = 4 := by decide +kernel
theorem jks_53 : (jsh 53).1 = 20 := by decide +kernel
theorem jss_53 : (jsh 53).2 = 8 := by decide +kernel
theorem jks_54 : (jsh 54).1 = 20 := by decide +kernel
theorem jss_54 : (jsh 54).2 = 8 := by decide +kernel
theorem jks_55 : (jsh 55).1 = 6 := by decide +kernel
theorem jss_55 : (jsh 55).2 = 4 := by decide +kernel
theorem jks_56 : (jsh 56).1 = 20 := by decide +kernel
theorem jss_56 : (jsh 56).2 = 8 := by decide +kernel
theorem jks_57 : (jsh 57).1 = 20 := by decide +kernel
theorem jss_57 : (jsh 57).2 = 8 := by decide +kernel
theorem jks_58 : (jsh 58).1 = 6 := by decide +kernel
theorem jss_58 : (jsh 58).2 = 4 := by decide +kernel
theorem jks_59 : (jsh 59).1 = 20 := by decide +kernel
theorem jss_59 : (jsh 59).2 = 8 := by decide +kernel
theorem jks_60 : (jsh 60).1 = 20 := by decide +kernel
theorem jss_60 : (jsh 60).2 = 8 := by decide +kernel
theorem jks_61 : (jsh 61).1 = 6 := by decide +kernel
theorem jss_61 : (jsh 61).2 = 4 := by decide +kernel
theorem jks_62 : (jsh 62).1 = 20 := by decide +kernel
theorem jss_62 : (jsh 62).2 = 8 := by decide +kernel
theorem jks_63 : (jsh 63).1 = 20 := by decide +kernel
theorem jss_63 : (jsh 63).2 = 8 := by decide +kernel
theorem jks_64 : (jsh 64).1 = 6 := by decide +kernel
theorem jss_64 : (jsh 64).2 = 4 := by decide +kernel
theorem jks_65 : (jsh 65).1 = 20 := by decide +kernel
theorem jss_65 : (jsh 65).2 = 8 := by decide +kernel
theorem jks_66 : (jsh 66).1 = 20 := by decide +kernel
theorem jss_66 : (jsh 66).2 = 8 := by decide +kernel
theorem jks_67 : (jsh 67).1 = 6 := by decide +kernel
theorem jss_67 : (jsh 67).2 = 4 := by decide +kernel
theorem jks_68 : (jsh 68).1 = 20 := by decide +kernel
theorem jss_68 : (jsh 68).2 = 8 := by decide +kernel
theorem jks_69 : (jsh 69).1 = 20 := by decide +kernel
theorem jss_69 : (jsh 69).2 = 8 := by decide +kernel
theorem jks_70 : (jsh 70).1 = 6 := by decide +kernel
theorem jss_70 : (jsh 70).2 = 4 := by decide +kernel
theorem jks_71 : (jsh 71).1 = 20 := by decide +kernel
theorem jss_71 : (jsh 71).2 = 8 := by decide +kernel
theorem jks_72 : (jsh 72).1 = 20 := by decide +kernel
theorem jss_72 : (jsh 72).2 = 8 := by decide +kernel
theorem jks_73 : (jsh 73).1 = 6 := by decide +kernel
theorem jss_73 : (jsh 73).2 = 4 := by decide +kernel
theorem jks_74 : (jsh 74).1 = 20 := by decide +kernel
theorem jss_74 : (jsh 74).2 = 8 := by decide +kernel
theorem jks_75 : (jsh 75).1 = 20 := by decide +kernel
theorem jss_75 : (jsh 75).2 = 8 := by decide +kernel
theorem jks_76 : (jsh 76).1 = 6 := by decide +kernel
theorem jss_76 : (jsh 76).2 = 4 := by decide +kernel
theorem jks_77 : (jsh 77).1 = 20 := by decide +kernel
theorem jss_77 : (jsh 77).2 = 8 := by decide +kernel
theorem jks_78 : (jsh 78).1 = 20 := by decide +kernel
theorem jss_78 : (jsh 78).2 = 8 := by decide +kernel
theorem jks_79 : (jsh 79).1 = 8 := by decide +kernel
theorem jss_79 : (jsh 79).2 = 5 := by decide +kernel
theorem jks_80 : (jsh 80).1 = 9 := by decide +kernel
theorem jss_80 : (jsh 80).2 = 2 := by decide +kernel
theorem jks_81 : (jsh 81).1 = 21 := by decide +kernel
theorem jss_81 : (jsh 81).2 = 33 := by decide +kernel
theorem jks_82 : (jsh 82).1 = 20 := by decide +kernel
theorem jss_82 : (jsh 82).2 = 7 := by decide +kernel
theorem jks_83 : (jsh 83).1 = 20 := by decide +kernel
theorem jss_83 : (jsh 83).2 = 8 := by decide +kernel
theorem jks_84 : (jsh 84).1 = 10 := by decide +kernel
theorem jss_84 : (jsh 84).2 = 19 := by decide +kernel
theorem jks_85 : (jsh 85).1 = 20 := by decide +kernel
theorem jss_85 : (jsh 85).2 = 8 := by decide +kernel
theorem jks_86 : (jsh 86).1 = 20 := by decide +kernel
theorem jss_86 : (jsh 86).2 = 8 := by decide +kernel
theorem jks_87 : (jsh 87).1 = 20 := by decide +kernel
theorem jss_87 : (jsh 87).2 = 8 := by decide +kernel
theorem jks_88 : (jsh 88).1 = 20 := by decide +kernel
theorem jss_88 : (jsh 88).2 = 8 := by decide +kernel
theorem jks_89 : (jsh 89).1 = 20 := by decide +kernel
theorem jss_89 : (jsh 89).2 = 8 := by decide +kernel
theorem jks_90 : (jsh 90).1 = 20 := by decide +kernel
theorem jss_90 : (jsh 90).2 = 8 := by decide +kernel
theorem jks_91 : (jsh 91).1 = 20 := by decide +kernel
theorem jss_91 : (jsh 91).2 = 8 := by decide +kernel
theorem jks_92 : (jsh 92).1 = 20 := by decide +kernel
theorem jss_92 : (jsh 92).2 = 8 := by decide +kernel
theorem jks_93 : (jsh 93).1 = 5 := by decide +kernel
theorem jss_93 : (jsh 93).2 = 4 := by decide +kernel
theorem jks_94 : (jsh 94).1 = 20 := by decide +kernel
theorem jss_94 : (jsh 94).2 = 1600 := by decide +kernel
theorem jks_95 : (jsh 95).1 = 20 := by decide +kernel
theorem jss_95 : (jsh 95).2 = 64 := by decide +kernel
theorem jks_96 : (jsh 96).1 = 11 := by decide +kernel
theorem jss_96 : (jsh 96).2 = 6 := by decide +kernel
theorem jks_97 : (jsh 97).1 = 20 := by decide +kernel
theorem jss_97 : (jsh 97).2 = 6 := by decide +kernel
theorem jks_98 : (jsh 98).1 = 10 := by decide +kernel
theorem jss_98 : (jsh 98).2 = 19 := by decide +kernel
theorem jks_99 : (jsh 99).1 = 20 := by decide +kernel
theorem jss_99 : (jsh 99).2 = 8 := by decide +kernel
theorem jks_100 : (jsh 100).1 = 20 := by decide +kernel
theorem jss_100 : (jsh 100).2 = 8 := by decide +kernel
theorem jks_101 : (jsh 101).1 = 20 := by decide +kernel
theorem jss_101 : (jsh 101).2 = 8 := by decide +kernel
theorem jks_102 : (jsh 102).1 = 20 := by decide +kernel
theorem jss_102 : (jsh 102).2 = 8 := by decide +kernel
theorem jks_103 : (jsh 103).1 = 20 := by decide +kernel
theorem jss_103 : (jsh 103).2 = 8 := by decide +kernel
theorem jks_104 : (jsh 104).1 = 20 := by decide +kernel
theorem jss_104 : (jsh 104).2 = 8 := by decide +kernel
theorem jks_105 : (jsh 105).1 = 20 := by decide +kernel
theorem jss_105 : (jsh 105).2 = 8 := by decide +kernel
theorem jks_106 : (jsh 106).1 = 20 := by decide +kernel
theorem jss_106 : (jsh 106).2 = 8 := by decide +kernel
theorem jks_107 : (jsh 107).1 = 5 := by decide +kernel
theorem jss_107 : (jsh 107).2 = 4 := by decide +kernel
theorem jks_108 : (jsh 108).1 = 20 := by decide +kernel
theorem jss_108 : (jsh 108).2 = 1600 := by decide +kernel
theorem jks_109 : (jsh 109).1 = 20 := by decide +kernel
theorem jss_109 : (jsh 109).2 = 64 := by decide +kernel
theorem jks_110 : (jsh 110).1 = 12 := by decide +kernel
theorem jss_110 : (jsh 110).2 = 91 := by decide +kernel
theorem jks_111 : (jsh 111).1 = 20 := by decide +kernel
theorem jss_111 : (jsh 111).2 = 1600 := by decide +kernel
theorem jks_112 : (jsh 112).1 = 20 := by decide +kernel
theorem jss_112 : (jsh 112).2 = 6 := by decide +kernel
theorem jks_113 : (jsh 113).1 = 22 := by decide +kernel
theorem jss_113 : (jsh 113).2 = 5 := by decide +kernel
theorem jks_114 : (jsh 114).1 = 22 := by decide +kernel
theorem jss_114 : (jsh 114).2 = 5 := by decide +kernel
theorem jks_115 : (jsh 115).1 = 22 := by decide +kernel
theorem jss_115 : (jsh 115).2 = 5 := by decide +kernel
theorem jks_116 : (jsh 116).1 = 22 := by decide +kernel
theorem jss_116 : (jsh 116).2 = 4 := by decide +kernel
theorem jks_117 : (jsh 117).1 = 22 := by decide +kernel
theorem jss_117 : (jsh 117).2 = 5 := by decide +kernel
theorem jks_118 : (jsh 118).1 = 22 := by decide +kernel
theorem jss_118 : (jsh 118).2 = 5 := by decide +kernel
theorem jks_119 : (jsh 119).1 = 22 := by decide +kernel
theorem jss_119 : (jsh 119).2 = 3 := by decide +kernel
theorem jks_120 : (jsh 120).1 = 22 := by decide +kernel
theorem jss_120 : (jsh 120).2 = 4 := by decide +kernel
theorem jks_121 : (jsh 121).1 = 22 := by decide +kernel
theorem jss_121 : (jsh 121).2 = 6 := by decide +kernel
theorem jks_122 : (jsh 122).1 = 22 := by decide +kernel
theorem jss_122 : (jsh 122).2 = 5 := by decide +kernel
theorem jks_123 : (jsh 123).1 = 22 := by decide +kernel
theorem jss_123 : (jsh 123).2 = 5 := by decide +kernel
theorem jks_124 : (jsh 124).1 = 22 := by decide +kernel
theorem jss_124 : (jsh 124).2 = 4 := by decide +kernel
theorem jks_125 : (jsh 125).1 = 22 := by decide +kernel
theorem jss_125 : (jsh 125).2 = 5 := by decide +kernel
theorem jks_126 : (jsh 126).1 = 22 := by decide +kernel
theorem jss_126 : (jsh 126).2 = 4 := by decide +kernel
theorem jks_127 : (jsh 127).1 = 22 := by decide +kernel
theorem jss_127 : (jsh 127).2 = 4 := by decide +kernel
theorem jks_128 : (jsh 128).1 = 22 := by decide +kernel
theorem jss_128 : (jsh 128).2 = 5 := by decide +kernel
theorem jks_129 : (jsh 129).1 = 22 := by decide +kernel
theorem jss_129 : (jsh 129).2 = 4 := by decide +kernel
theorem jks_130 : (jsh 130).1 = 22 := by decide +kernel
theorem jss_130 : (jsh 130).2 = 6 := by decide +kernel
theorem jks_131 : (jsh 131).1 = 22 := by decide +kernel
theorem jss_131 : (jsh 131).2 = 3 := by decide +kernel
theorem jks_132 : (jsh 132).1 = 22 := by decide +kernel
theorem jss_132 : (jsh 132).2 = 2 := by decide +kernel
theorem jks_133 : (jsh 133).1 = 22 := by decide +kernel
theorem jss_133 : (jsh 133).2 = 3 := by decide +kernel
theorem jks_134 : (jsh 134).1 = 22 := by decide +kernel
theorem jss_134 : (jsh 134).2 = 3 := by decide +kernel
theorem jks_135 : (jsh 135).1 = 22 := by decide +kernel
theorem jss_135 : (jsh 135).2 = 3 := by decide +kernel
theorem jks_136 : (jsh 136).1 = 22 := by decide +kernel
theorem jss_136 : (jsh 136).2 = 3 := by decide +kernel
theorem jks_137 : (jsh 137).1 = 22 := by decide +kernel
theorem jss_137 : (jsh 137).2 = 3 := by decide +kernel
theorem jks_138 : (jsh 138).1 = 20 := by decide +kernel
theorem jss_138 : (jsh 138).2 = 6 := by decide +kernel
theorem jks_139 : (jsh 139).1 = 21 := by decide +kernel
theorem jss_139 : (jsh 139).2 = 16 := by decide +kernel
theorem jks_140 : (jsh 140).1 = 20 := by decide +kernel
theorem jss_140 : (jsh 140).2 = 8 := by decide +kernel
theorem jks_141 : (jsh 141).1 = 20 := by decide +kernel
theorem jss_141 : (jsh 141).2 = 64 := by decide +kernel
theorem jks_142 : (jsh 142).1 = 20 := by decide +kernel
theorem jss_142 : (jsh 142).2 = 16 := by decide +kernel
theorem jks_143 : (jsh 143).1 = 20 := by decide +kernel
theorem jss_143 : (jsh 143).2 = 16 := by decide +kernel
theorem jks_144 : (jsh 144).1 = 20 := by decide +kernel
theorem jss_144 : (jsh 144).2 = 6 := by decide +kernel
theorem jks_145 : (jsh 145).1 = 20 := by decide +kernel
theorem jss_145 : (jsh 145).2 = 2 := by decide +kernel
theorem jks_146 : (jsh 146).1 = 20 := by decide +kernel
theorem jss_146 : (jsh 146).2 = 2 := by decide +kernel
theorem jks_147 : (jsh 147).1 = 20 := by decide +kernel
theorem jss_147 : (jsh 147).2 = 3200 := by decide +kernel
theorem jks_148 : (jsh 148).1 = 20 := by decide +kernel
theorem jss_148 : (jsh 148).2 = 18 := by decide +kernel
theorem jks_149 : (jsh 149).1 = 20 := by decide +kernel
theorem jss_149 : (jsh 149).2 = 18 := by decide +kernel
theorem jks_150 : (jsh 150).1 = 21 := by decide +kernel
theorem jss_150 : (jsh 150).2 = 33 := by decide +kernel
theorem jks_151 : (jsh 151).1 = 21 := by decide +kernel
theorem jss_151 : (jsh 151).2 = 9 := by decide +kernel
theorem jks_152 : (jsh 152).1 = 20 := by decide +kernel
theorem jss_152 : (jsh 152).2 = 360 := by decide +kernel
theorem jks_153 : (jsh 153).1 = 22 := by decide +kernel
theorem jss_153 : (jsh 153).2 = 5 := by decide +kernel
theorem jks_154 : (jsh 154).1 = 22 := by decide +kernel
theorem jss_154 : (jsh 154).2 = 4 := by decide +kernel
theorem jks_155 : (jsh 155).1 = 22 := by decide +kernel
theorem jss_155 : (jsh 155).2 = 5 := by decide +kernel
theorem jks_156 : (jsh 156).1 = 22 := by decide +kernel
theorem jss_156 : (jsh 156).2 = 5 := by decide +kernel
theorem jks_157 : (jsh 157).1 = 22 := by decide +kernel
theorem jss_157 : (jsh 157).2 = 4 := by decide +kernel
theorem jks_158 : (jsh 158).1 = 22 := by decide +kernel
theorem jss_158 : (jsh 158).2 = 5 := by decide +kernel
theorem jks_159 : (jsh 159).1 = 22 := by decide +kernel
theorem jss_159 : (jsh 159).2 = 3 := by decide +kernel
theorem jks_160 : (jsh 160).1 = 22 := by decide +kernel
theorem jss_160 : (jsh 160).2 = 3 := by decide +kernel
theorem jks_161 : (jsh 161).1 = 22 := by decide +kernel
theorem jss_161 : (jsh 161).2 = 2 := by decide +kernel
theorem jks_162 : (jsh 162).1 = 22 := by decide +kernel
theorem jss_162 : (jsh 162).2 = 3 := by decide +kernel
theorem jks_163 : (jsh 163).1 = 22 := by decide +kernel
theorem jss_163 : (jsh 163).2 = 3 := by decide +kernel
theorem jks_164 : (jsh 164).1 = 22 := by decide +kernel
theorem jss_164 : (jsh 164).2 = 3 := by decide +kernel
theorem jks_165 : (jsh 165).1 = 22 := by decide +kernel
theorem jss_165 : (jsh 165).2 = 5 := by decide +kernel
theorem jks_166 : (jsh 166).1 = 22 := by decide +kernel
theorem jss_166 : (jsh 166).2 = 6 := by decide +kernel
theorem jks_167 : (jsh 167).1 = 22 := by decide +kernel
theorem jss_167 : (jsh 167).2 = 3 := by decide +kernel
theorem jks_168 : (jsh 168).1 = 22 := by decide +kernel
theorem jss_168 : (jsh 168).2 = 4 := by decide +kernel
theorem jks_169 : (jsh 169).1 = 22 := by decide +kernel
theorem jss_169 : (jsh 169).2 = 6 := by decide +kernel
theorem jks_170 : (jsh 170).1 = 22 := by decide +kernel
theorem jss_170 : (jsh 170).2 = 3 := by decide +kernel
theorem jks_171 : (jsh 171).1 = 22 := by decide +kernel
theorem jss_171 : (jsh 171).2 = 5 := by decide +kernel
theorem jks_172 : (jsh 172).1 = 22 := by decide +kernel
theorem jss_172 : (jsh 172).2 = 5 := by decide +kernel
theorem jks_173 : (jsh 173).1 = 20 := by decide +kernel
theorem jss_173 : (jsh 173).2 = 1700 := by decide +kernel
theorem jks_174 : (jsh 174).1 = 20 := by decide +kernel
theorem jss_174 : (jsh 174).2 = 1700 := by decide +kernel
theorem jks_175 : (jsh 175).1 = 21 := by decide +kernel
theorem jss_175 : (jsh 175).2 = 1700 := by decide +kernel
theorem jks_176 : (jsh 176).1 = 20 := by decide +kernel
theorem jss_176 : (jsh 176).2 = 29 := by decide +kernel
theorem jclo_ok {n o c : Nat} (h : o ≤ n) (hc : (jsh o).1 = c) : jcl n o = c := by
  unfold jcl
  rw [if_pos h]
  exact hc
def cR_1 : jR := (jup (jcr (jcr (jcr (fun _ _ => 0) 1 0) 2 0) 3 0) 2 0 3)
def cH_1 : jH := (jhI (jhn (jhn (jhn ((fun _ _ => 0), (fun _ _ => 0)) 1) 2) 3) 2 1 0)
set_option maxRecDepth 20000 in
theorem jco_1 {X : jX} {dd : Nat} {Q : Option Value → jS → Prop} (K : jEx X (dd + 4) jc_1 20 [some (.ref 2), some (.int 1600)] [] (3, cR_1, cH_1) Q) : jEx X (dd + 4) jc_1 0 [some (.ref 2), some (.int 1600)] [] (2, (jcr (jcr (fun _ _ => 0) 1 0) 2 0), (jhn (jhn ((fun _ _ => 0), (fun _ _ => 0)) 1) 2)) Q := by
  refine jx_next (pc := 0) (pc' := 1) rfl rfl ?_
  refine jx_obj (pc := 1) rfl (by decide) ?_
  refine jx_next (pc := 4) (pc' := 5) rfl rfl ?_
  refine jx_next (pc := 5) (pc' := 6) rfl rfl ?_
  refine jx_next (pc := 6) (pc' := 7) rfl rfl ?_
  refine jx_calls (pc := 7) rfl (Nat.le_of_ble_eq_true rfl) (Nat.le_of_ble_eq_true rfl) ?_
  refine jCa_of (es := jc_2) (pl := [some (.int 0), some (.int 1600)]) (M := jm_2) rfl rfl rfl rfl ?_
  refine jx_next (pc := 0) (pc' := 1) rfl rfl ?_
  refine jx_next (pc := 1) (pc' := 2) rfl rfl ?_
  refine jx_iclt (pc := 2) rfl (fun _ => ?_) (fun hn => absurd (by decide) hn)
  refine jx_next (pc := 9) (pc' := 10) rfl rfl ?_
  refine jx_iret (pc := 10) rfl ?_
  refine jx_newa (pc := 10) (m := 3) rfl rfl (by decide) jks_3 ⟨by decide, by rw [jss_3]; decide⟩ ?_
  refine jx_putr (pc := 12) rfl (jclo_ok (by omega) jks_2) ?_
  refine jx_next (pc := 15) (pc' := 16) rfl rfl ?_
  refine jx_next (pc := 16) (pc' := 17) rfl rfl ?_
  refine jx_puti (pc := 17) rfl (jclo_ok (by omega) jks_2) ?_
  exact K
def cR_2 : jR := (jup (jcr (jcr (jup cR_1 1 0 2) 4 0) 5 0) 4 0 5)
def cH_2 : jH := (jhI (jhn (jhn cH_1 4) 5) 4 1 0)
set_option maxRecDepth 20000 in
theorem jco_2 {X : jX} {dd : Nat} {Q : Option Value → jS → Prop} (K : jEx X (dd + 4) jc_1 20 [some (.ref 4), some (.int 29)] [] (5, cR_2, cH_2) Q) : jEx X (dd + 4) jc_1 0 [some (.ref 4), some (.int 29)] [] (4, (jcr (jup cR_1 1 0 2) 4 0), (jhn cH_1 4)) Q := by
  refine jx_next (pc := 0) (pc' := 1) rfl rfl ?_
  refine jx_obj (pc := 1) rfl (by decide) ?_
  refine jx_next (pc := 4) (pc' := 5) rfl rfl ?_
  refine jx_next (pc := 5) (pc' := 6) rfl rfl ?_
  refine jx_next (pc := 6) (pc' := 7) rfl rfl ?_
  refine jx_calls (pc := 7) rfl (Nat.le_of_ble_eq_true rfl) (Nat.le_of_ble_eq_true rfl) ?_
  refine jCa_of (es := jc_2) (pl := [some (.int 0), some (.int 29)]) (M := jm_2) rfl rfl rfl rfl ?_
  refine jx_next (pc := 0) (pc' := 1) rfl rfl ?_
  refine jx_next (pc := 1) (pc' := 2) rfl rfl ?_
  refine jx_iclt (pc := 2) rfl (fun _ => ?_) (fun hn => absurd (by decide) hn)
  refine jx_next (pc := 9) (pc' := 10) rfl rfl ?_
  refine jx_iret (pc := 10) rfl ?_
  refine jx_newa (pc := 10) (m := 5) rfl rfl (by decide) jks_5 ⟨by decide, by rw [jss_5]; decide⟩ ?_
  refine jx_putr (pc := 12) rfl (jclo_ok (by omega) jks_4) ?_
  refine jx_next (pc := 15) (pc' := 16) rfl rfl ?_
  refine jx_next (pc := 16) (pc' := 17) rfl rfl ?_
  refine jx_puti (pc := 17) rfl (jclo_ok (by omega) jks_4) ?_
  exact K
def cR_3 : jR := (jup (jcr (jup cR_2 1 1 4) 6 0) 6 0 2)
def cH_3 : jH := (jhI (jhI (jhn cH_2 6) 6 3 0) 6 6 (-1))
set_option maxRecDepth 20000 in
theorem jco_3 {X : jX} {dd : Nat} {Q : Option Value → jS → Prop} (K : jEx X (dd + 4) jc_4 19 [some (.ref 6), some (.ref 2)] [] (6, cR_3, cH_3) Q) : jEx X (dd + 4) jc_4 0 [some (.ref 6), some (.ref 2)] [] (6, (jcr (jup cR_2 1 1 4) 6 0), (jhn cH_2 6)) Q := by
  refine jx_next (pc := 0) (pc' := 1) rfl rfl ?_
  refine jx_obj (pc := 1) rfl (by decide) ?_
  refine jx_next (pc := 4) (pc' := 5) rfl rfl ?_
  refine jx_next (pc := 5) (pc' := 6) rfl rfl ?_
  refine jx_putr (pc := 6) rfl (jclo_ok (by omega) jks_6) ?_
  refine jx_next (pc := 9) (pc' := 10) rfl rfl ?_
  refine jx_next (pc := 10) (pc' := 11) rfl rfl ?_
  refine jx_puti (pc := 11) rfl (jclo_ok (by omega) jks_6) ?_
  refine jx_next (pc := 14) (pc' := 15) rfl rfl ?_
  refine jx_next (pc := 15) (pc' := 16) rfl rfl ?_
  refine jx_puti (pc := 16) rfl (jclo_ok (by omega) jks_6) ?_
  exact K
def cR_4 : jR := (jup cR_3 1 2 6)
def cH_4 : jH := cH_3
set_option maxRecDepth 20000 in
theorem jco_4 {X : jX} {dd : Nat} {Q : Option Value → jS → Prop} (K : jEx X (dd + 5) jc_0 49 [some (.ref 1)] [] (6, cR_4, cH_4) Q) : jEx X (dd + 5) jc_0 0 [some (.ref 1)] [] (1, (jcr (fun _ _ => 0) 1 0), (jhn ((fun _ _ => 0), (fun _ _ => 0)) 1)) Q := by
  refine jx_next (pc := 0) (pc' := 1) rfl rfl ?_
  refine jx_obj (pc := 1) rfl (by decide) ?_
  refine jx_next (pc := 4) (pc' := 5) rfl rfl ?_
  refine jx_newo (pc := 5) (m := 2) rfl rfl (by decide) jks_2 ?_
  refine jx_next (pc := 8) (pc' := 9) rfl rfl ?_
  refine jx_next (pc := 9) (pc' := 12) rfl rfl ?_
  refine jx_callp (pc := 12) (o := 2) (rest := [.ref 2, .ref 1]) rfl ⟨by decide, by decide⟩ rfl (jclo_ok (by omega) jks_2) (Nat.le_of_ble_eq_true rfl) ?_
  refine jCa_of (es := jc_1) (pl := [some (.ref 2), some (.int 1600)]) (M := jm_1) rfl rfl rfl rfl ?_
  refine jco_1 ?_
  refine jx_ret (pc := 20) rfl rfl ?_
  refine jx_putr (pc := 15) rfl (jclo_ok (by omega) jks_1) ?_
  refine jx_next (pc := 18) (pc' := 19) rfl rfl ?_
  refine jx_newo (pc := 19) (m := 4) rfl rfl (by decide) jks_4 ?_
  refine jx_next (pc := 22) (pc' := 23) rfl rfl ?_
  refine jx_next (pc := 23) (pc' := 25) rfl rfl ?_
  refine jx_calls (pc := 25) rfl (Nat.le_of_ble_eq_true rfl) (Nat.le_of_ble_eq_true rfl) ?_
  refine jCa_of (es := jc_3) (pl := [some (.int 8)]) (M := jm_3) rfl rfl rfl rfl ?_
  refine jx_next (pc := 0) (pc' := 1) rfl rfl ?_
  refine jx_next (pc := 1) (pc' := 2) rfl rfl ?_
  refine jx_next (pc := 2) (pc' := 3) rfl rfl ?_
  refine jx_next (pc := 3) (pc' := 4) (st' := [.int 24, .int 4]) rfl rfl ?_
  refine jx_next (pc := 4) (pc' := 5) (st' := [.int 28]) rfl rfl ?_
  refine jx_next (pc := 5) (pc' := 6) rfl rfl ?_
  refine jx_next (pc := 6) (pc' := 7) (st' := [.int 29]) rfl rfl ?_
  refine jx_iret (pc := 7) rfl ?_
  refine jx_callp (pc := 28) (o := 4) (rest := [.ref 4, .ref 1]) rfl ⟨by decide, by decide⟩ rfl (jclo_ok (by omega) jks_4) (Nat.le_of_ble_eq_true rfl) ?_
  refine jCa_of (es := jc_1) (pl := [some (.ref 4), some (.int 29)]) (M := jm_1) rfl rfl rfl rfl ?_
  refine jco_2 ?_
  refine jx_ret (pc := 20) rfl rfl ?_
  refine jx_putr (pc := 31) rfl (jclo_ok (by omega) jks_1) ?_
  refine jx_next (pc := 34) (pc' := 35) rfl rfl ?_
  refine jx_newo (pc := 35) (m := 6) rfl rfl (by decide) jks_6 ?_
  refine jx_next (pc := 38) (pc' := 39) rfl rfl ?_
  refine jx_next (pc := 39) (pc' := 40) rfl rfl ?_
  refine jx_getr2 (r := 2) (pc := 40) rfl (jclo_ok (by omega) jks_1) rfl ?_
  refine jx_callp (pc := 43) (o := 6) (rest := [.ref 6, .ref 1]) rfl ⟨by decide, by decide⟩ rfl (jclo_ok (by omega) jks_6) (Nat.le_of_ble_eq_true rfl) ?_
  refine jCa_of (es := jc_4) (pl := [some (.ref 6), some (.ref 2)]) (M := jm_4) rfl rfl rfl rfl ?_
  refine jco_3 ?_
  refine jx_ret (pc := 19) rfl rfl ?_
  refine jx_putr (pc := 46) rfl (jclo_ok (by omega) jks_1) ?_
  exact K
def cR_5 : jR := (jup (jcr (jup (jcr (jcr (jup (jup (jcr cR_4 7 0) 7 0 6) 1 3 7) 8 0) 9 0) 8 0 9) 10 0) 8 1 10)
def cH_5 : jH := (jhI (jhI (jhn (jhn (jhn (jhn cH_4 7) 8) 9) 10) 8 2 0) 8 3 0)
set_option maxRecDepth 20000 in
theorem jco_5 {X : jX} {dd : Nat} {Q : Option Value → jS → Prop} (K : jEx X (dd + 4) jc_6 31 [some (.ref 8)] [] (10, cR_5, cH_5) Q) : jEx X (dd + 4) jc_6 0 [some (.ref 8)] [] (8, (jcr (jup (jup (jcr cR_4 7 0) 7 0 6) 1 3 7) 8 0), (jhn (jhn cH_4 7) 8)) Q := by
  refine jx_next (pc := 0) (pc' := 1) rfl rfl ?_
  refine jx_obj (pc := 1) rfl (by decide) ?_
  refine jx_next (pc := 4) (pc' := 5) rfl rfl ?_
  refine jx_next (pc := 5) (pc' := 8) rfl rfl ?_
  refine jx_newa (pc := 8) (m := 9) rfl rfl (by decide) jks_9 ⟨by decide, by rw [jss_9]; decide⟩ ?_
  refine jx_putr (pc := 10) rfl (jclo_ok (by omega) jks_8) ?_
  refine jx_next (pc := 13) (pc' := 14) rfl rfl ?_
  refine jx_next (pc := 14) (pc' := 16) rfl rfl ?_
  refine jx_newa (pc := 16) (m := 10) rfl rfl (by decide) jks_10 ⟨by decide, by rw [jss_10]; decide⟩ ?_
  refine jx_putr (pc := 18) rfl (jclo_ok (by omega) jks_8) ?_
  refine jx_next (pc := 21) (pc' := 22) rfl rfl ?_
  refine jx_next (pc := 22) (pc' := 23) rfl rfl ?_
  refine jx_puti (pc := 23) rfl (jclo_ok (by omega) jks_8) ?_
  refine jx_next (pc := 26) (pc' := 27) rfl rfl ?_
  refine jx_next (pc := 27) (pc' := 28) rfl rfl ?_
  refine jx_putz (pc := 28) rfl (jclo_ok (by omega) jks_8) (Or.inl rfl) ?_
  exact K
def cR_6 : jR := (jup (jcr (jup (jcr (jcr (jup cR_5 1 4 8) 11 0) 12 0) 11 2 12) 13 0) 11 3 13)
def cH_6 : jH := (jhI (jhI (jhn (jhn (jhn cH_5 11) 12) 13) 11 0 0) 11 1 (-1))
set_option maxRecDepth 20000 in
theorem jco_6 {X : jX} {dd : Nat} {Q : Option Value → jS → Prop} (K : jEx X (dd + 4) jc_7 30 [some (.ref 11)] [] (13, cR_6, cH_6) Q) : jEx X (dd + 4) jc_7 0 [some (.ref 11)] [] (11, (jcr (jup cR_5 1 4 8) 11 0), (jhn cH_5 11)) Q := by
  refine jx_next (pc := 0) (pc' := 1) rfl rfl ?_
  refine jx_obj (pc := 1) rfl (by decide) ?_
  refine jx_next (pc := 4) (pc' := 5) rfl rfl ?_
  refine jx_next (pc := 5) (pc' := 7) rfl rfl ?_
  refine jx_newa (pc := 7) (m := 12) rfl rfl (by decide) jks_12 ⟨by decide, by rw [jss_12]; decide⟩ ?_
  refine jx_putr (pc := 9) rfl (jclo_ok (by omega) jks_11) ?_
  refine jx_next (pc := 12) (pc' := 13) rfl rfl ?_
  refine jx_next (pc := 13) (pc' := 15) rfl rfl ?_
  refine jx_newa (pc := 15) (m := 13) rfl rfl (by decide) jks_13 ⟨by decide, by rw [jss_13]; decide⟩ ?_
  refine jx_putr (pc := 17) rfl (jclo_ok (by omega) jks_11) ?_
  refine jx_next (pc := 20) (pc' := 21) rfl rfl ?_
  refine jx_next (pc := 21) (pc' := 22) rfl rfl ?_
  refine jx_puti (pc := 22) rfl (jclo_ok (by omega) jks_11) ?_
  refine jx_next (pc := 25) (pc' := 26) rfl rfl ?_
  refine jx_next (pc := 26) (pc' := 27) rfl rfl ?_
  refine jx_puti (pc := 27) rfl (jclo_ok (by omega) jks_11) ?_
  exact K
def cR_7 : jR := (jup (jcr (jup (jcr (jcr (jup cR_6 1 5 11) 14 0) 15 0) 14 2 15) 16 0) 14 3 16)
def cH_7 : jH := (jhI (jhI (jhn (jhn (jhn cH_6 14) 15) 16) 14 0 0) 14 1 (-1))
set_option maxRecDepth 20000 in
theorem jco_7 {X : jX} {dd : Nat} {Q : Option Value → jS → Prop} (K : jEx X (dd + 4) jc_7 30 [some (.ref 14)] [] (16, cR_7, cH_7) Q) : jEx X (dd + 4) jc_7 0 [some (.ref 14)] [] (14, (jcr (jup cR_6 1 5 11) 14 0), (jhn cH_6 14)) Q := by
  refine jx_next (pc := 0) (pc' := 1) rfl rfl ?_
  refine jx_obj (pc := 1) rfl (by decide) ?_
  refine jx_next (pc := 4) (pc' := 5) rfl rfl ?_
  refine jx_next (pc := 5) (pc' := 7) rfl rfl ?_
  refine jx_newa (pc := 7) (m := 15) rfl rfl (by decide) jks_15 ⟨by decide, by rw [jss_15]; decide⟩ ?_
  refine jx_putr (pc := 9) rfl (jclo_ok (by omega) jks_14) ?_
  refine jx_next (pc := 12) (pc' := 13) rfl rfl ?_
  refine jx_next (pc := 13) (pc' := 15) rfl rfl ?_
  refine jx_newa (pc := 15) (m := 16) rfl rfl (by decide) jks_16 ⟨by decide, by rw [jss_16]; decide⟩ ?_
  refine jx_putr (pc := 17) rfl (jclo_ok (by omega) jks_14) ?_
  refine jx_next (pc := 20) (pc' := 21) rfl rfl ?_
  refine jx_next (pc := 21) (pc' := 22) rfl rfl ?_
  refine jx_puti (pc := 22) rfl (jclo_ok (by omega) jks_14) ?_
  refine jx_next (pc := 25) (pc' := 26) rfl rfl ?_
  refine jx_next (pc := 26) (pc' := 27) rfl rfl ?_
  refine jx_puti (pc := 27) rfl (jclo_ok (by omega) jks_14) ?_
  exact K
def cR_8 : jR := (jcr (jup cR_7 1 6 14) 17 0)
def cH_8 : jH := (jhn cH_7 17)
set_option maxRecDepth 20000 in
theorem jco_8 {X : jX} {dd : Nat} {Q : Option Value → jS → Prop} (K : jEx X (dd + 5) jc_0 101 [some (.ref 1)] [.ref 17, .ref 1] (17, cR_8, cH_8) Q) : jEx X (dd + 5) jc_0 49 [some (.ref 1)] [] (6, cR_4, cH_4) Q := by
  refine jx_next (pc := 49) (pc' := 50) rfl rfl ?_
  refine jx_newo (pc := 50) (m := 7) rfl rfl (by decide) jks_7 ?_
  refine jx_next (pc := 53) (pc' := 54) rfl rfl ?_
  refine jx_next (pc := 54) (pc' := 55) rfl rfl ?_
  refine jx_getr2 (r := 6) (pc := 55) rfl (jclo_ok (by omega) jks_1) rfl ?_
  refine jx_callp (pc := 58) (o := 7) (rest := [.ref 7, .ref 1]) rfl ⟨by decide, by decide⟩ rfl (jclo_ok (by omega) jks_7) (Nat.le_of_ble_eq_true rfl) ?_
  refine jCa_of (es := jc_5) (pl := [some (.ref 7), some (.ref 6)]) (M := jm_5) rfl rfl rfl rfl ?_
  refine jx_next (pc := 0) (pc' := 1) rfl rfl ?_
  refine jx_obj (pc := 1) rfl (by decide) ?_
  refine jx_next (pc := 4) (pc' := 5) rfl rfl ?_
  refine jx_next (pc := 5) (pc' := 6) rfl rfl ?_
  refine jx_putr (pc := 6) rfl (jclo_ok (by omega) jks_7) ?_
  refine jx_ret (pc := 9) rfl rfl ?_
  refine jx_putr (pc := 61) rfl (jclo_ok (by omega) jks_1) ?_
  refine jx_next (pc := 64) (pc' := 65) rfl rfl ?_
  refine jx_newo (pc := 65) (m := 8) rfl rfl (by decide) jks_8 ?_
  refine jx_next (pc := 68) (pc' := 69) rfl rfl ?_
  refine jx_callp (pc := 69) (o := 8) (rest := [.ref 8, .ref 1]) rfl ⟨by decide, by decide⟩ rfl (jclo_ok (by omega) jks_8) (Nat.le_of_ble_eq_true rfl) ?_
  refine jCa_of (es := jc_6) (pl := [some (.ref 8)]) (M := jm_6) rfl rfl rfl rfl ?_
  refine jco_5 ?_
  refine jx_ret (pc := 31) rfl rfl ?_
  refine jx_putr (pc := 72) rfl (jclo_ok (by omega) jks_1) ?_
  refine jx_next (pc := 75) (pc' := 76) rfl rfl ?_
  refine jx_newo (pc := 76) (m := 11) rfl rfl (by decide) jks_11 ?_
  refine jx_next (pc := 79) (pc' := 80) rfl rfl ?_
  refine jx_callp (pc := 80) (o := 11) (rest := [.ref 11, .ref 1]) rfl ⟨by decide, by decide⟩ rfl (jclo_ok (by omega) jks_11) (Nat.le_of_ble_eq_true rfl) ?_
  refine jCa_of (es := jc_7) (pl := [some (.ref 11)]) (M := jm_7) rfl rfl rfl rfl ?_
  refine jco_6 ?_
  refine jx_ret (pc := 30) rfl rfl ?_
  refine jx_putr (pc := 83) rfl (jclo_ok (by omega) jks_1) ?_
  refine jx_next (pc := 86) (pc' := 87) rfl rfl ?_
  refine jx_newo (pc := 87) (m := 14) rfl rfl (by decide) jks_14 ?_
  refine jx_next (pc := 90) (pc' := 91) rfl rfl ?_
  refine jx_callp (pc := 91) (o := 14) (rest := [.ref 14, .ref 1]) rfl ⟨by decide, by decide⟩ rfl (jclo_ok (by omega) jks_14) (Nat.le_of_ble_eq_true rfl) ?_
  refine jCa_of (es := jc_7) (pl := [some (.ref 14)]) (M := jm_7) rfl rfl rfl rfl ?_
  refine jco_7 ?_
  refine jx_ret (pc := 30) rfl rfl ?_
  refine jx_putr (pc := 94) rfl (jclo_ok (by omega) jks_1) ?_
  refine jx_next (pc := 97) (pc' := 98) rfl rfl ?_
  refine jx_newo (pc := 98) (m := 17) rfl rfl (by decide) jks_17 ?_
  exact K
def cR_9 : jR := (jup (jcr (jup (jcr (jcr (jup (jcr cR_8 18 0) 17 0 18) 19 0) 20 0) 19 2 20) 21 0) 19 3 21)
def cH_9 : jH := (jhI (jhI (jhn (jhn (jhn (jhn cH_8 18) 19) 20) 21) 19 0 0) 19 1 (-1))
set_option maxRecDepth 20000 in
theorem jco_9 {X : jX} {dd : Nat} {Q : Option Value → jS → Prop} (K : jEx X (dd + 3) jc_7 30 [some (.ref 19)] [] (21, cR_9, cH_9) Q) : jEx X (dd + 3) jc_7 0 [some (.ref 19)] [] (19, (jcr (jup (jcr cR_8 18 0) 17 0 18) 19 0), (jhn (jhn cH_8 18) 19)) Q := by
  refine jx_next (pc := 0) (pc' := 1) rfl rfl ?_
  refine jx_obj (pc := 1) rfl (by decide) ?_
  refine jx_next (pc := 4) (pc' := 5) rfl rfl ?_
  refine jx_next (pc := 5) (pc' := 7) rfl rfl ?_
  refine jx_newa (pc := 7) (m := 20) rfl rfl (by decide) jks_20 ⟨by decide, by rw [jss_20]; decide⟩ ?_
  refine jx_putr (pc := 9) rfl (jclo_ok (by omega) jks_19) ?_
  refine jx_next (pc := 12) (pc' := 13) rfl rfl ?_
  refine jx_next (pc := 13) (pc' := 15) rfl rfl ?_
  refine jx_newa (pc := 15) (m := 21) rfl rfl (by decide) jks_21 ⟨by decide, by rw [jss_21]; decide⟩ ?_
  refine jx_putr (pc := 17) rfl (jclo_ok (by omega) jks_19) ?_
  refine jx_next (pc := 20) (pc' := 21) rfl rfl ?_
  refine jx_next (pc := 21) (pc' := 22) rfl rfl ?_
  refine jx_puti (pc := 22) rfl (jclo_ok (by omega) jks_19) ?_
  refine jx_next (pc := 25) (pc' := 26) rfl rfl ?_
  refine jx_next (pc := 26) (pc' := 27) rfl rfl ?_
  refine jx_puti (pc := 27) rfl (jclo_ok (by omega) jks_19) ?_
  exact K
def cR_10 : jR := (jup (jcr (jup (jcr (jcr (jup cR_9 18 0 19) 22 0) 23 0) 22 2 23) 24 0) 22 3 24)
def cH_10 : jH := (jhI (jhI (jhn (jhn (jhn cH_9 22) 23) 24) 22 0 0) 22 1 (-1))
set_option maxRecDepth 20000 in
theorem jco_10 {X : jX} {dd : Nat} {Q : Option Value → jS → Prop} (K : jEx X (dd + 3) jc_7 30 [some (.ref 22)] [] (24, cR_10, cH_10) Q) : jEx X (dd + 3) jc_7 0 [some (.ref 22)] [] (22, (jcr (jup cR_9 18 0 19) 22 0), (jhn cH_9 22)) Q := by
  refine jx_next (pc := 0) (pc' := 1) rfl rfl ?_
  refine jx_obj (pc := 1) rfl (by decide) ?_
  refine jx_next (pc := 4) (pc' := 5) rfl rfl ?_
  refine jx_next (pc := 5) (pc' := 7) rfl rfl ?_
  refine jx_newa (pc := 7) (m := 23) rfl rfl (by decide) jks_23 ⟨by decide, by rw [jss_23]; decide⟩ ?_
  refine jx_putr (pc := 9) rfl (jclo_ok (by omega) jks_22) ?_
  refine jx_next (pc := 12) (pc' := 13) rfl rfl ?_
  refine jx_next (pc := 13) (pc' := 15) rfl rfl ?_
  refine jx_newa (pc := 15) (m := 24) rfl rfl (by decide) jks_24 ⟨by decide, by rw [jss_24]; decide⟩ ?_
  refine jx_putr (pc := 17) rfl (jclo_ok (by omega) jks_22) ?_
  refine jx_next (pc := 20) (pc' := 21) rfl rfl ?_
  refine jx_next (pc := 21) (pc' := 22) rfl rfl ?_
  refine jx_puti (pc := 22) rfl (jclo_ok (by omega) jks_22) ?_
  refine jx_next (pc := 25) (pc' := 26) rfl rfl ?_
  refine jx_next (pc := 26) (pc' := 27) rfl rfl ?_
  refine jx_puti (pc := 27) rfl (jclo_ok (by omega) jks_22) ?_
  exact K
def cR_11 : jR := (jup cR_10 18 1 22)
def cH_11 : jH := cH_10
set_option maxRecDepth 20000 in
theorem jco_11 {X : jX} {dd : Nat} {Q : Option Value → jS → Prop} (K : jEx X (dd + 4) jc_8 18 [some (.ref 17), some (.int 2)] [.int 20, .int 2] (24, cR_11, cH_11) Q) : jEx X (dd + 4) jc_8 0 [some (.ref 17), none] [] (17, cR_8, cH_8) Q := by
  refine jx_next (pc := 0) (pc' := 1) rfl rfl ?_
  refine jx_obj (pc := 1) rfl (by decide) ?_
  refine jx_next (pc := 4) (pc' := 5) rfl rfl ?_
  refine jx_next (pc := 5) (pc' := 7) rfl rfl ?_
  refine jx_newr (pc := 7) (m := 18) rfl rfl (by decide) jks_18 ⟨by decide, by rw [jss_18]; decide⟩ ?_
  refine jx_putr (pc := 10) rfl (jclo_ok (by omega) jks_17) ?_
  refine jx_next (pc := 13) (pc' := 14) rfl rfl ?_
  refine jx_stin (pc := 14) (p2 := [some (.ref 17), some (.int 0)]) rfl (jlt rfl) rfl ?_
  refine jx_next (pc := 15) (pc' := 16) rfl rfl ?_
  refine jx_next (pc := 16) (pc' := 18) rfl rfl ?_
  refine jx_icge (pc := 18) rfl (fun _ => ?_) (fun hn => absurd (by decide) hn)
  refine jx_next (pc := 21) (pc' := 22) rfl rfl ?_
  refine jx_getr2 (r := 18) (pc := 22) rfl (jclo_ok (by omega) jks_17) rfl ?_
  refine jx_next (pc := 25) (pc' := 26) rfl rfl ?_
  refine jx_newo (pc := 26) (m := 19) rfl rfl (by decide) jks_19 ?_
  refine jx_next (pc := 29) (pc' := 30) rfl rfl ?_
  refine jx_callp (pc := 30) (o := 19) (rest := [.ref 19, .int 0, .ref 18]) rfl ⟨by decide, by decide⟩ rfl (jclo_ok (by omega) jks_19) (Nat.le_of_ble_eq_true rfl) ?_
  refine jCa_of (es := jc_7) (pl := [some (.ref 19)]) (M := jm_7) rfl rfl rfl rfl ?_
  refine jco_9 ?_
  refine jx_ret (pc := 30) rfl rfl ?_
  refine jx_aastv (pc := 33) (j := 0) rfl (jclo_ok (by omega) jks_18) (by decide) jss_18 (by decide) ⟨by omega, (jclo_ok (by omega) jks_19)⟩ ?_
  refine jx_inc (pc := 34) (x := 0) (p2 := [some (.ref 17), some (.int 1)]) rfl rfl (jlt rfl) (by decide) ?_
  refine jx_next (pc := 37) (pc' := 15) rfl rfl ?_
  refine jx_next (pc := 15) (pc' := 16) rfl rfl ?_
  refine jx_next (pc := 16) (pc' := 18) rfl rfl ?_
  refine jx_icge (pc := 18) rfl (fun _ => ?_) (fun hn => absurd (by decide) hn)
  refine jx_next (pc := 21) (pc' := 22) rfl rfl ?_
  refine jx_getr2 (r := 18) (pc := 22) rfl (jclo_ok (by omega) jks_17) rfl ?_
  refine jx_next (pc := 25) (pc' := 26) rfl rfl ?_
  refine jx_newo (pc := 26) (m := 22) rfl rfl (by decide) jks_22 ?_
  refine jx_next (pc := 29) (pc' := 30) rfl rfl ?_
  refine jx_callp (pc := 30) (o := 22) (rest := [.ref 22, .int 1, .ref 18]) rfl ⟨by decide, by decide⟩ rfl (jclo_ok (by omega) jks_22) (Nat.le_of_ble_eq_true rfl) ?_
  refine jCa_of (es := jc_7) (pl := [some (.ref 22)]) (M := jm_7) rfl rfl rfl rfl ?_
  refine jco_10 ?_
  refine jx_ret (pc := 30) rfl rfl ?_
  refine jx_aastv (pc := 33) (j := 1) rfl (jclo_ok (by omega) jks_18) (by decide) jss_18 (by decide) ⟨by omega, (jclo_ok (by omega) jks_22)⟩ ?_
  refine jx_inc (pc := 34) (x := 1) (p2 := [some (.ref 17), some (.int 2)]) rfl rfl (jlt rfl) (by decide) ?_
  refine jx_next (pc := 37) (pc' := 15) rfl rfl ?_
  refine jx_next (pc := 15) (pc' := 16) rfl rfl ?_
  refine jx_next (pc := 16) (pc' := 18) rfl rfl ?_
  exact K
def cR_12 : jR := (jup (jcr (jup (jcr (jcr cR_11 25 0) 26 0) 25 2 26) 27 0) 25 3 27)
def cH_12 : jH := (jhI (jhI (jhn (jhn (jhn cH_11 25) 26) 27) 25 0 0) 25 1 (-1))
set_option maxRecDepth 20000 in
theorem jco_12 {X : jX} {dd : Nat} {Q : Option Value → jS → Prop} (K : jEx X (dd + 3) jc_7 30 [some (.ref 25)] [] (27, cR_12, cH_12) Q) : jEx X (dd + 3) jc_7 0 [some (.ref 25)] [] (25, (jcr cR_11 25 0), (jhn cH_11 25)) Q := by
  refine jx_next (pc := 0) (pc' := 1) rfl rfl ?_
  refine jx_obj (pc := 1) rfl (by decide) ?_
  refine jx_next (pc := 4) (pc' := 5) rfl rfl ?_
  refine jx_next (pc := 5) (pc' := 7) rfl rfl ?_
  refine jx_newa (pc := 7) (m := 26) rfl rfl (by decide) jks_26 ⟨by decide, by rw [jss_26]; decide⟩ ?_
  refine jx_putr (pc := 9) rfl (jclo_ok (by omega) jks_25) ?_
  refine jx_next (pc := 12) (pc' := 13) rfl rfl ?_
  refine jx_next (pc := 13) (pc' := 15) rfl rfl ?_
  refine jx_newa (pc := 15) (m := 27) rfl rfl (by decide) jks_27 ⟨by decide, by rw [jss_27]; decide⟩ ?_
  refine jx_putr (pc := 17) rfl (jclo_ok (by omega) jks_25) ?_
  refine jx_next (pc := 20) (pc' := 21) rfl rfl ?_
  refine jx_next (pc := 21) (pc' := 22) rfl rfl ?_
  refine jx_puti (pc := 22) rfl (jclo_ok (by omega) jks_25) ?_
  refine jx_next (pc := 25) (pc' := 26) rfl rfl ?_
  refine jx_next (pc := 26) (pc' := 27) rfl rfl ?_
  refine jx_puti (pc := 27) rfl (jclo_ok (by omega) jks_25) ?_
  exact K
def cR_13 : jR := (jup (jcr (jup (jcr (jcr (jup cR_12 18 2 25) 28 0) 29 0) 28 2 29) 30 0) 28 3 30)
def cH_13 : jH := (jhI (jhI (jhn (jhn (jhn cH_12 28) 29) 30) 28 0 0) 28 1 (-1))
set_option maxRecDepth 20000 in
theorem jco_13 {X : jX} {dd : Nat} {Q : Option Value → jS → Prop} (K : jEx X (dd + 3) jc_7 30 [some (.ref 28)] [] (30, cR_13, cH_13) Q) : jEx X (dd + 3) jc_7 0 [some (.ref 28)] [] (28, (jcr (jup cR_12 18 2 25) 28 0), (jhn cH_12 28)) Q := by
  refine jx_next (pc := 0) (pc' := 1) rfl rfl ?_
  refine jx_obj (pc := 1) rfl (by decide) ?_
  refine jx_next (pc := 4) (pc' := 5) rfl rfl ?_
  refine jx_next (pc := 5) (pc' := 7) rfl rfl ?_
  refine jx_newa (pc := 7) (m := 29) rfl rfl (by decide) jks_29 ⟨by decide, by rw [jss_29]; decide⟩ ?_
  refine jx_putr (pc := 9) rfl (jclo_ok (by omega) jks_28) ?_
  refine jx_next (pc := 12) (pc' := 13) rfl rfl ?_
  refine jx_next (pc := 13) (pc' := 15) rfl rfl ?_
  refine jx_newa (pc := 15) (m := 30) rfl rfl (by decide) jks_30 ⟨by decide, by rw [jss_30]; decide⟩ ?_
  refine jx_putr (pc := 17) rfl (jclo_ok (by omega) jks_28) ?_
  refine jx_next (pc := 20) (pc' := 21) rfl rfl ?_
  refine jx_next (pc := 21) (pc' := 22) rfl rfl ?_
  refine jx_puti (pc := 22) rfl (jclo_ok (by omega) jks_28) ?_
  refine jx_next (pc := 25) (pc' := 26) rfl rfl ?_
  refine jx_next (pc := 26) (pc' := 27) rfl rfl ?_
  refine jx_puti (pc := 27) rfl (jclo_ok (by omega) jks_28) ?_
  exact K
def cR_14 : jR := (jup (jcr (jup (jcr (jcr (jup cR_13 18 3 28) 31 0) 32 0) 31 2 32) 33 0) 31 3 33)
def cH_14 : jH := (jhI (jhI (jhn (jhn (jhn cH_13 31) 32) 33) 31 0 0) 31 1 (-1))
set_option maxRecDepth 20000 in
theorem jco_14 {X : jX} {dd : Nat} {Q : Option Value → jS → Prop} (K : jEx X (dd + 3) jc_7 30 [some (.ref 31)] [] (33, cR_14, cH_14) Q) : jEx X (dd + 3) jc_7 0 [some (.ref 31)] [] (31, (jcr (jup cR_13 18 3 28) 31 0), (jhn cH_13 31)) Q := by
  refine jx_next (pc := 0) (pc' := 1) rfl rfl ?_
  refine jx_obj (pc := 1) rfl (by decide) ?_
  refine jx_next (pc := 4) (pc' := 5) rfl rfl ?_
  refine jx_next (pc := 5) (pc' := 7) rfl rfl ?_
  refine jx_newa (pc := 7) (m := 32) rfl rfl (by decide) jks_32 ⟨by decide, by rw [jss_32]; decide⟩ ?_
  refine jx_putr (pc := 9) rfl (jclo_ok (by omega) jks_31) ?_
  refine jx_next (pc := 12) (pc' := 13) rfl rfl ?_
  refine jx_next (pc := 13) (pc' := 15) rfl rfl ?_
  refine jx_newa (pc := 15) (m := 33) rfl rfl (by decide) jks_33 ⟨by decide, by rw [jss_33]; decide⟩ ?_
  refine jx_putr (pc := 17) rfl (jclo_ok (by omega) jks_31) ?_
  refine jx_next (pc := 20) (pc' := 21) rfl rfl ?_
  refine jx_next (pc := 21) (pc' := 22) rfl rfl ?_
  refine jx_puti (pc := 22) rfl (jclo_ok (by omega) jks_31) ?_
  refine jx_next (pc := 25) (pc' := 26) rfl rfl ?_
  refine jx_next (pc := 26) (pc' := 27) rfl rfl ?_
  refine jx_puti (pc := 27) rfl (jclo_ok (by omega) jks_31) ?_
  exact K
def cR_15 : jR := cR_14
def cH_15 : jH := cH_14
set_option maxRecDepth 20000 in
theorem jco_15 {X : jX} {dd : Nat} {Q : Option Value → jS → Prop} (K : jEx X (dd + 4) jc_8 33 [some (.ref 17), some (.int 4)] [.ref 31, .int 4, .ref 18] (33, cR_15, cH_15) Q) : jEx X (dd + 4) jc_8 18 [some (.ref 17), some (.int 2)] [.int 20, .int 2] (24, cR_11, cH_11) Q := by
  refine jx_icge (pc := 18) rfl (fun _ => ?_) (fun hn => absurd (by decide) hn)
  refine jx_next (pc := 21) (pc' := 22) rfl rfl ?_
  refine jx_getr2 (r := 18) (pc := 22) rfl (jclo_ok (by omega) jks_17) rfl ?_
  refine jx_next (pc := 25) (pc' := 26) rfl rfl ?_
  refine jx_newo (pc := 26) (m := 25) rfl rfl (by decide) jks_25 ?_
  refine jx_next (pc := 29) (pc' := 30) rfl rfl ?_
  refine jx_callp (pc := 30) (o := 25) (rest := [.ref 25, .int 2, .ref 18]) rfl ⟨by decide, by decide⟩ rfl (jclo_ok (by omega) jks_25) (Nat.le_of_ble_eq_true rfl) ?_
  refine jCa_of (es := jc_7) (pl := [some (.ref 25)]) (M := jm_7) rfl rfl rfl rfl ?_
  refine jco_12 ?_
  refine jx_ret (pc := 30) rfl rfl ?_
  refine jx_aastv (pc := 33) (j := 2) rfl (jclo_ok (by omega) jks_18) (by decide) jss_18 (by decide) ⟨by omega, (jclo_ok (by omega) jks_25)⟩ ?_
  refine jx_inc (pc := 34) (x := 2) (p2 := [some (.ref 17), some (.int 3)]) rfl rfl (jlt rfl) (by decide) ?_
  refine jx_next (pc := 37) (pc' := 15) rfl rfl ?_
  refine jx_next (pc := 15) (pc' := 16) rfl rfl ?_
  refine jx_next (pc := 16) (pc' := 18) rfl rfl ?_
  refine jx_icge (pc := 18) rfl (fun _ => ?_) (fun hn => absurd (by decide) hn)
  refine jx_next (pc := 21) (pc' := 22) rfl rfl ?_
  refine jx_getr2 (r := 18) (pc := 22) rfl (jclo_ok (by omega) jks_17) rfl ?_
  refine jx_next (pc := 25) (pc' := 26) rfl rfl ?_
  refine jx_newo (pc := 26) (m := 28) rfl rfl (by decide) jks_28 ?_
  refine jx_next (pc := 29) (pc' := 30) rfl rfl ?_
  refine jx_callp (pc := 30) (o := 28) (rest := [.ref 28, .int 3, .ref 18]) rfl ⟨by decide, by decide⟩ rfl (jclo_ok (by omega) jks_28) (Nat.le_of_ble_eq_true rfl) ?_
  refine jCa_of (es := jc_7) (pl := [some (.ref 28)]) (M := jm_7) rfl rfl rfl rfl ?_
  refine jco_13 ?_
  refine jx_ret (pc := 30) rfl rfl ?_
  refine jx_aastv (pc := 33) (j := 3) rfl (jclo_ok (by omega) jks_18) (by decide) jss_18 (by decide) ⟨by omega, (jclo_ok (by omega) jks_28)⟩ ?_
  refine jx_inc (pc := 34) (x := 3) (p2 := [some (.ref 17), some (.int 4)]) rfl rfl (jlt rfl) (by decide) ?_
  refine jx_next (pc := 37) (pc' := 15) rfl rfl ?_
  refine jx_next (pc := 15) (pc' := 16) rfl rfl ?_
  refine jx_next (pc := 16) (pc' := 18) rfl rfl ?_
  refine jx_icge (pc := 18) rfl (fun _ => ?_) (fun hn => absurd (by decide) hn)
  refine jx_next (pc := 21) (pc' := 22) rfl rfl ?_
  refine jx_getr2 (r := 18) (pc := 22) rfl (jclo_ok (by omega) jks_17) rfl ?_
  refine jx_next (pc := 25) (pc' := 26) rfl rfl ?_
  refine jx_newo (pc := 26) (m := 31) rfl rfl (by decide) jks_31 ?_
  refine jx_next (pc := 29) (pc' := 30) rfl rfl ?_
  refine jx_callp (pc := 30) (o := 31) (rest := [.ref 31, .int 4, .ref 18]) rfl ⟨by decide, by decide⟩ rfl (jclo_ok (by omega) jks_31) (Nat.le_of_ble_eq_true rfl) ?_
  refine jCa_of (es := jc_7) (pl := [some (.ref 31)]) (M := jm_7) rfl rfl rfl rfl ?_
  refine jco_14 ?_
  refine jx_ret (pc := 30) rfl rfl ?_
  exact K
def cR_16 : jR := (jup (jcr (jup (jcr (jcr (jup cR_15 18 4 31) 34 0) 35 0) 34 2 35) 36 0) 34 3 36)
def cH_16 : jH := (jhI (jhI (jhn (jhn (jhn cH_15 34) 35) 36) 34 0 0) 34 1 (-1))
set_option maxRecDepth 20000 in
theorem jco_16 {X : jX} {dd : Nat} {Q : Option Value → jS → Prop} (K : jEx X (dd + 3) jc_7 30 [some (.ref 34)] [] (36, cR_16, cH_16) Q) : jEx X (dd + 3) jc_7 0 [some (.ref 34)] [] (34, (jcr (jup cR_15 18 4 31) 34 0), (jhn cH_15 34)) Q := by
  refine jx_next (pc := 0) (pc' := 1) rfl rfl ?_
  refine jx_obj (pc := 1) rfl (by decide) ?_
  refine jx_next (pc := 4) (pc' := 5) rfl rfl ?_
  refine jx_next (pc := 5) (pc' := 7) rfl rfl ?_
  refine jx_newa (pc := 7) (m := 35) rfl rfl (by decide) jks_35 ⟨by decide, by rw [jss_35]; decide⟩ ?_
  refine jx_putr (pc := 9) rfl (jclo_ok (by omega) jks_34) ?_
  refine jx_next (pc := 12) (pc' := 13) rfl rfl ?_
  refine jx_next (pc := 13) (pc' := 15) rfl rfl ?_
  refine jx_newa (pc := 15) (m := 36) rfl rfl (by decide) jks_36 ⟨by decide, by rw [jss_36]; decide⟩ ?_
  refine jx_putr (pc := 17) rfl (jclo_ok (by omega) jks_34) ?_
  refine jx_next (pc := 20) (pc' := 21) rfl rfl ?_
  refine jx_next (pc := 21) (pc' := 22) rfl rfl ?_
  refine jx_puti (pc := 22) rfl (jclo_ok (by omega) jks_34) ?_
  refine jx_next (pc := 25) (pc' := 26) rfl rfl ?_
  refine jx_next (pc := 26) (pc' := 27) rfl rfl ?_
  refine jx_puti (pc := 27) rfl (jclo_ok (by omega) jks_34) ?_
  exact K
def cR_17 : jR := (jup (jcr (jup (jcr (jcr (jup cR_16 18 5 34) 37 0) 38 0) 37 2 38) 39 0) 37 3 39)
def cH_17 : jH := (jhI (jhI (jhn (jhn (jhn cH_16 37) 38) 39) 37 0 0) 37 1 (-1))
set_option maxRecDepth 20000 in
theorem jco_17 {X : jX} {dd : Nat} {Q : Option Value → jS → Prop} (K : jEx X (dd + 3) jc_7 30 [some (.ref 37)] [] (39, cR_17, cH_17) Q) : jEx X (dd + 3) jc_7 0 [some (.ref 37)] [] (37, (jcr (jup cR_16 18 5 34) 37 0), (jhn cH_16 37)) Q := by
  refine jx_next (pc := 0) (pc' := 1) rfl rfl ?_
  refine jx_obj (pc := 1) rfl (by decide) ?_
  refine jx_next (pc := 4) (pc' := 5) rfl rfl ?_
  refine jx_next (pc := 5) (pc' := 7) rfl rfl ?_
  refine jx_newa (pc := 7) (m := 38) rfl rfl (by decide) jks_38 ⟨by decide, by rw [jss_38]; decide⟩ ?_
  refine jx_putr (pc := 9) rfl (jclo_ok (by omega) jks_37) ?_
  refine jx_next (pc := 12) (pc' := 13) rfl rfl ?_
  refine jx_next (pc := 13) (pc' := 15) rfl rfl ?_
  refine jx_newa (pc := 15) (m := 39) rfl rfl (by decide) jks_39 ⟨by decide, by rw [jss_39]; decide⟩ ?_
  refine jx_putr (pc := 17) rfl (jclo_ok (by omega) jks_37) ?_
  refine jx_next (pc := 20) (pc' := 21) rfl rfl ?_
  refine jx_next (pc := 21) (pc' := 22) rfl rfl ?_
  refine jx_puti (pc := 22) rfl (jclo_ok (by omega) jks_37) ?_
  refine jx_next (pc := 25) (pc' := 26) rfl rfl ?_
  refine jx_next (pc := 26) (pc' := 27) rfl rfl ?_
  refine jx_puti (pc := 27) rfl (jclo_ok (by omega) jks_37) ?_
  exact K
def cR_18 : jR := (jcr (jup cR_17 18 6 37) 40 0)
def cH_18 : jH := (jhn cH_17 40)
set_option maxRecDepth 20000 in
theorem jco_18 {X : jX} {dd : Nat} {Q : Option Value → jS → Prop} (K : jEx X (dd + 4) jc_8 29 [some (.ref 17), some (.int 7)] [.ref 40, .int 7, .ref 18] (40, cR_18, cH_18) Q) : jEx X (dd + 4) jc_8 33 [some (.ref 17), some (.int 4)] [.ref 31, .int 4, .ref 18] (33, cR_15, cH_15) Q := by
  refine jx_aastv (pc := 33) (j := 4) rfl (jclo_ok (by omega) jks_18) (by decide) jss_18 (by decide) ⟨by omega, (jclo_ok (by omega) jks_31)⟩ ?_
  refine jx_inc (pc := 34) (x := 4) (p2 := [some (.ref 17), some (.int 5)]) rfl rfl (jlt rfl) (by decide) ?_
  refine jx_next (pc := 37) (pc' := 15) rfl rfl ?_
  refine jx_next (pc := 15) (pc' := 16) rfl rfl ?_
  refine jx_next (pc := 16) (pc' := 18) rfl rfl ?_
  refine jx_icge (pc := 18) rfl (fun _ => ?_) (fun hn => absurd (by decide) hn)
  refine jx_next (pc := 21) (pc' := 22) rfl rfl ?_
  refine jx_getr2 (r := 18) (pc := 22) rfl (jclo_ok (by omega) jks_17) rfl ?_
  refine jx_next (pc := 25) (pc' := 26) rfl rfl ?_
  refine jx_newo (pc := 26) (m := 34) rfl rfl (by decide) jks_34 ?_
  refine jx_next (pc := 29) (pc' := 30) rfl rfl ?_
  refine jx_callp (pc := 30) (o := 34) (rest := [.ref 34, .int 5, .ref 18]) rfl ⟨by decide, by decide⟩ rfl (jclo_ok (by omega) jks_34) (Nat.le_of_ble_eq_true rfl) ?_
  refine jCa_of (es := jc_7) (pl := [some (.ref 34)]) (M := jm_7) rfl rfl rfl rfl ?_
  refine jco_16 ?_
  refine jx_ret (pc := 30) rfl rfl ?_
  refine jx_aastv (pc := 33) (j := 5) rfl (jclo_ok (by omega) jks_18) (by decide) jss_18 (by decide) ⟨by omega, (jclo_ok (by omega) jks_34)⟩ ?_
  refine jx_inc (pc := 34) (x := 5) (p2 := [some (.ref 17), some (.int 6)]) rfl rfl (jlt rfl) (by decide) ?_
  refine jx_next (pc := 37) (pc' := 15) rfl rfl ?_
  refine jx_next (pc := 15) (pc' := 16) rfl rfl ?_
  refine jx_next (pc := 16) (pc' := 18) rfl rfl ?_
  refine jx_icge (pc := 18) rfl (fun _ => ?_) (fun hn => absurd (by decide) hn)
  refine jx_next (pc := 21) (pc' := 22) rfl rfl ?_
  refine jx_getr2 (r := 18) (pc := 22) rfl (jclo_ok (by omega) jks_17) rfl ?_
  refine jx_next (pc := 25) (pc' := 26) rfl rfl ?_
  refine jx_newo (pc := 26) (m := 37) rfl rfl (by decide) jks_37 ?_
  refine jx_next (pc := 29) (pc' := 30) rfl rfl ?_
  refine jx_callp (pc := 30) (o := 37) (rest := [.ref 37, .int 6, .ref 18]) rfl ⟨by decide, by decide⟩ rfl (jclo_ok (by omega) jks_37) (Nat.le_of_ble_eq_true rfl) ?_
  refine jCa_of (es := jc_7) (pl := [some (.ref 37)]) (M := jm_7) rfl rfl rfl rfl ?_
  refine jco_17 ?_
  refine jx_ret (pc := 30) rfl rfl ?_
  refine jx_aastv (pc := 33) (j := 6) rfl (jclo_ok (by omega) jks_18) (by decide) jss_18 (by decide) ⟨by omega, (jclo_ok (by omega) jks_37)⟩ ?_
  refine jx_inc (pc := 34) (x := 6) (p2 := [some (.ref 17), some (.int 7)]) rfl rfl (jlt rfl) (by decide) ?_
  refine jx_next (pc := 37) (pc' := 15) rfl rfl ?_
  refine jx_next (pc := 15) (pc' := 16) rfl rfl ?_
  refine jx_next (pc := 16) (pc' := 18) rfl rfl ?_
  refine jx_icge (pc := 18) rfl (fun _ => ?_) (fun hn => absurd (by decide) hn)
  refine jx_next (pc := 21) (pc' := 22) rfl rfl ?_
  refine jx_getr2 (r := 18) (pc := 22) rfl (jclo_ok (by omega) jks_17) rfl ?_
  refine jx_next (pc := 25) (pc' := 26) rfl rfl ?_
  refine jx_newo (pc := 26) (m := 40) rfl rfl (by decide) jks_40 ?_
  exact K
def cR_19 : jR := (jup (jcr (jup (jcr cR_18 41 0) 40 2 41) 42 0) 40 3 42)
def cH_19 : jH := (jhI (jhI (jhn (jhn cH_18 41) 42) 40 0 0) 40 1 (-1))
set_option maxRecDepth 20000 in
theorem jco_19 {X : jX} {dd : Nat} {Q : Option Value → jS → Prop} (K : jEx X (dd + 3) jc_7 30 [some (.ref 40)] [] (42, cR_19, cH_19) Q) : jEx X (dd + 3) jc_7 0 [some (.ref 40)] [] (40, cR_18, cH_18) Q := by
  refine jx_next (pc := 0) (pc' := 1) rfl rfl ?_
  refine jx_obj (pc := 1) rfl (by decide) ?_
  refine jx_next (pc := 4) (pc' := 5) rfl rfl ?_
  refine jx_next (pc := 5) (pc' := 7) rfl rfl ?_
  refine jx_newa (pc := 7) (m := 41) rfl rfl (by decide) jks_41 ⟨by decide, by rw [jss_41]; decide⟩ ?_
  refine jx_putr (pc := 9) rfl (jclo_ok (by omega) jks_40) ?_
  refine jx_next (pc := 12) (pc' := 13) rfl rfl ?_
  refine jx_next (pc := 13) (pc' := 15) rfl rfl ?_
  refine jx_newa (pc := 15) (m := 42) rfl rfl (by decide) jks_42 ⟨by decide, by rw [jss_42]; decide⟩ ?_
  refine jx_putr (pc := 17) rfl (jclo_ok (by omega) jks_40) ?_
  refine jx_next (pc := 20) (pc' := 21) rfl rfl ?_
  refine jx_next (pc := 21) (pc' := 22) rfl rfl ?_
  refine jx_puti (pc := 22) rfl (jclo_ok (by omega) jks_40) ?_
  refine jx_next (pc := 25) (pc' := 26) rfl rfl ?_
  refine jx_next (pc := 26) (pc' := 27) rfl rfl ?_
  refine jx_puti (pc := 27) rfl (jclo_ok (by omega) jks_40) ?_
  exact K
def cR_20 : jR := (jup (jcr (jup (jcr (jcr (jup cR_19 18 7 40) 43 0) 44 0) 43 2 44) 45 0) 43 3 45)
def cH_20 : jH := (jhI (jhI (jhn (jhn (jhn cH_19 43) 44) 45) 43 0 0) 43 1 (-1))
set_option maxRecDepth 20000 in
theorem jco_20 {X : jX} {dd : Nat} {Q : Option Value → jS → Prop} (K : jEx X (dd + 3) jc_7 30 [some (.ref 43)] [] (45, cR_20, cH_20) Q) : jEx X (dd + 3) jc_7 0 [some (.ref 43)] [] (43, (jcr (jup cR_19 18 7 40) 43 0), (jhn cH_19 43)) Q := by
  refine jx_next (pc := 0) (pc' := 1) rfl rfl ?_
  refine jx_obj (pc := 1) rfl (by decide) ?_
  refine jx_next (pc := 4) (pc' := 5) rfl rfl ?_
  refine jx_next (pc := 5) (pc' := 7) rfl rfl ?_
  refine jx_newa (pc := 7) (m := 44) rfl rfl (by decide) jks_44 ⟨by decide, by rw [jss_44]; decide⟩ ?_
  refine jx_putr (pc := 9) rfl (jclo_ok (by omega) jks_43) ?_
  refine jx_next (pc := 12) (pc' := 13) rfl rfl ?_
  refine jx_next (pc := 13) (pc' := 15) rfl rfl ?_
  refine jx_newa (pc := 15) (m := 45) rfl rfl (by decide) jks_45 ⟨by decide, by rw [jss_45]; decide⟩ ?_
  refine jx_putr (pc := 17) rfl (jclo_ok (by omega) jks_43) ?_
  refine jx_next (pc := 20) (pc' := 21) rfl rfl ?_
  refine jx_next (pc := 21) (pc' := 22) rfl rfl ?_
  refine jx_puti (pc := 22) rfl (jclo_ok (by omega) jks_43) ?_
  refine jx_next (pc := 25) (pc' := 26) rfl rfl ?_
  refine jx_next (pc := 26) (pc' := 27) rfl rfl ?_
  refine jx_puti (pc := 27) rfl (jclo_ok (by omega) jks_43) ?_
  exact K
def cR_21 : jR := (jup (jcr (jup (jcr (jcr (jup cR_20 18 8 43) 46 0) 47 0) 46 2 47) 48 0) 46 3 48)
def cH_21 : jH := (jhI (jhI (jhn (jhn (jhn cH_20 46) 47) 48) 46 0 0) 46 1 (-1))
set_option maxRecDepth 20000 in
theorem jco_21 {X : jX} {dd : Nat} {Q : Option Value → jS → Prop} (K : jEx X (dd + 3) jc_7 30 [some (.ref 46)] [] (48, cR_21, cH_21) Q) : jEx X (dd + 3) jc_7 0 [some (.ref 46)] [] (46, (jcr (jup cR_20 18 8 43) 46 0), (jhn cH_20 46)) Q := by
  refine jx_next (pc := 0) (pc' := 1) rfl rfl ?_
  refine jx_obj (pc := 1) rfl (by decide) ?_
  refine jx_next (pc := 4) (pc' := 5) rfl rfl ?_
  refine jx_next (pc := 5) (pc' := 7) rfl rfl ?_
  refine jx_newa (pc := 7) (m := 47) rfl rfl (by decide) jks_47 ⟨by decide, by rw [jss_47]; decide⟩ ?_
  refine jx_putr (pc := 9) rfl (jclo_ok (by omega) jks_46) ?_
  refine jx_next (pc := 12) (pc' := 13) rfl rfl ?_
  refine jx_next (pc := 13) (pc' := 15) rfl rfl ?_
  refine jx_newa (pc := 15) (m := 48) rfl rfl (by decide) jks_48 ⟨by decide, by rw [jss_48]; decide⟩ ?_
  refine jx_putr (pc := 17) rfl (jclo_ok (by omega) jks_46) ?_
  refine jx_next (pc := 20) (pc' := 21) rfl rfl ?_
  refine jx_next (pc := 21) (pc' := 22) rfl rfl ?_
  refine jx_puti (pc := 22) rfl (jclo_ok (by omega) jks_46) ?_
  refine jx_next (pc := 25) (pc' := 26) rfl rfl ?_
  refine jx_next (pc := 26) (pc' := 27) rfl rfl ?_
  refine jx_puti (pc := 27) rfl (jclo_ok (by omega) jks_46) ?_
  exact K
def cR_22 : jR := (jup cR_21 18 9 46)
def cH_22 : jH := cH_21
set_option maxRecDepth 20000 in
theorem jco_22 {X : jX} {dd : Nat} {Q : Option Value → jS → Prop} (K : jEx X (dd + 4) jc_8 18 [some (.ref 17), some (.int 10)] [.int 20, .int 10] (48, cR_22, cH_22) Q) : jEx X (dd + 4) jc_8 29 [some (.ref 17), some (.int 7)] [.ref 40, .int 7, .ref 18] (40, cR_18, cH_18) Q := by
  refine jx_next (pc := 29) (pc' := 30) rfl rfl ?_
  refine jx_callp (pc := 30) (o := 40) (rest := [.ref 40, .int 7, .ref 18]) rfl ⟨by decide, by decide⟩ rfl (jclo_ok (by omega) jks_40) (Nat.le_of_ble_eq_true rfl) ?_
  refine jCa_of (es := jc_7) (pl := [some (.ref 40)]) (M := jm_7) rfl rfl rfl rfl ?_
  refine jco_19 ?_
  refine jx_ret (pc := 30) rfl rfl ?_
  refine jx_aastv (pc := 33) (j := 7) rfl (jclo_ok (by omega) jks_18) (by decide) jss_18 (by decide) ⟨by omega, (jclo_ok (by omega) jks_40)⟩ ?_
  refine jx_inc (pc := 34) (x := 7) (p2 := [some (.ref 17), some (.int 8)]) rfl rfl (jlt rfl) (by decide) ?_
  refine jx_next (pc := 37) (pc' := 15) rfl rfl ?_
  refine jx_next (pc := 15) (pc' := 16) rfl rfl ?_
  refine jx_next (pc := 16) (pc' := 18) rfl rfl ?_
  refine jx_icge (pc := 18) rfl (fun _ => ?_) (fun hn => absurd (by decide) hn)
  refine jx_next (pc := 21) (pc' := 22) rfl rfl ?_
  refine jx_getr2 (r := 18) (pc := 22) rfl (jclo_ok (by omega) jks_17) rfl ?_
  refine jx_next (pc := 25) (pc' := 26) rfl rfl ?_
  refine jx_newo (pc := 26) (m := 43) rfl rfl (by decide) jks_43 ?_
  refine jx_next (pc := 29) (pc' := 30) rfl rfl ?_
  refine jx_callp (pc := 30) (o := 43) (rest := [.ref 43, .int 8, .ref 18]) rfl ⟨by decide, by decide⟩ rfl (jclo_ok (by omega) jks_43) (Nat.le_of_ble_eq_true rfl) ?_
  refine jCa_of (es := jc_7) (pl := [some (.ref 43)]) (M := jm_7) rfl rfl rfl rfl ?_
  refine jco_20 ?_
  refine jx_ret (pc := 30) rfl rfl ?_
  refine jx_aastv (pc := 33) (j := 8) rfl (jclo_ok (by omega) jks_18) (by decide) jss_18 (by decide) ⟨by omega, (jclo_ok (by omega) jks_43)⟩ ?_
  refine jx_inc (pc := 34) (x := 8) (p2 := [some (.ref 17), some (.int 9)]) rfl rfl (jlt rfl) (by decide) ?_
  refine jx_next (pc := 37) (pc' := 15) rfl rfl ?_
  refine jx_next (pc := 15) (pc' := 16) rfl rfl ?_
  refine jx_next (pc := 16) (pc' := 18) rfl rfl ?_
  refine jx_icge (pc := 18) rfl (fun _ => ?_) (fun hn => absurd (by decide) hn)
  refine jx_next (pc := 21) (pc' := 22) rfl rfl ?_
  refine jx_getr2 (r := 18) (pc := 22) rfl (jclo_ok (by omega) jks_17) rfl ?_
  refine jx_next (pc := 25) (pc' := 26) rfl rfl ?_
  refine jx_newo (pc := 26) (m := 46) rfl rfl (by decide) jks_46 ?_
  refine jx_next (pc := 29) (pc' := 30) rfl rfl ?_
  refine jx_callp (pc := 30) (o := 46) (rest := [.ref 46, .int 9, .ref 18]) rfl ⟨by decide, by decide⟩ rfl (jclo_ok (by omega) jks_46) (Nat.le_of_ble_eq_true rfl) ?_
  refine jCa_of (es := jc_7) (pl := [some (.ref 46)]) (M := jm_7) rfl rfl rfl rfl ?_
  refine jco_21 ?_
  refine jx_ret (pc := 30) rfl rfl ?_
  refine jx_aastv (pc := 33) (j := 9) rfl (jclo_ok (by omega) jks_18) (by decide) jss_18 (by decide) ⟨by omega, (jclo_ok (by omega) jks_46)⟩ ?_
  refine jx_inc (pc := 34) (x := 9) (p2 := [some (.ref 17), some (.int 10)]) rfl rfl (jlt rfl) (by decide) ?_
  refine jx_next (pc := 37) (pc' := 15) rfl rfl ?_
  refine jx_next (pc := 15) (pc' := 16) rfl rfl ?_
  refine jx_next (pc := 16) (pc' := 18) rfl rfl ?_
  exact K
def cR_23 : jR := (jup (jcr (jup (jcr (jcr cR_22 49 0) 50 0) 49 2 50) 51 0) 49 3 51)
def cH_23 : jH := (jhI (jhI (jhn (jhn (jhn cH_22 49) 50) 51) 49 0 0) 49 1 (-1))
set_option maxRecDepth 20000 in
theorem jco_23 {X : jX} {dd : Nat} {Q : Option Value → jS → Prop} (K : jEx X (dd + 3) jc_7 30 [some (.ref 49)] [] (51, cR_23, cH_23) Q) : jEx X (dd + 3) jc_7 0 [some (.ref 49)] [] (49, (jcr cR_22 49 0), (jhn cH_22 49)) Q := by
  refine jx_next (pc := 0) (pc' := 1) rfl rfl ?_
  refine jx_obj (pc := 1) rfl (by decide) ?_
  refine jx_next (pc := 4) (pc' := 5) rfl rfl ?_
  refine jx_next (pc := 5) (pc' := 7) rfl rfl ?_
  refine jx_newa (pc := 7) (m := 50) rfl rfl (by decide) jks_50 ⟨by decide, by rw [jss_50]; decide⟩ ?_
  refine jx_putr (pc := 9) rfl (jclo_ok (by omega) jks_49) ?_
  refine jx_next (pc := 12) (pc' := 13) rfl rfl ?_
  refine jx_next (pc := 13) (pc' := 15) rfl rfl ?_
  refine jx_newa (pc := 15) (m := 51) rfl rfl (by decide) jks_51 ⟨by decide, by rw [jss_51]; decide⟩ ?_
  refine jx_putr (pc := 17) rfl (jclo_ok (by omega) jks_49) ?_
  refine jx_next (pc := 20) (pc' := 21) rfl rfl ?_
  refine jx_next (pc := 21) (pc' := 22) rfl rfl ?_
  refine jx_puti (pc := 22) rfl (jclo_ok (by omega) jks_49) ?_
  refine jx_next (pc := 25) (pc' := 26) rfl rfl ?_
  refine jx_next (pc := 26) (pc' := 27) rfl rfl ?_
  refine jx_puti (pc := 27) rfl (jclo_ok (by omega) jks_49) ?_
  exact K
def cR_24 : jR := (jup (jcr (jup (jcr (jcr (jup cR_23 18 10 49) 52 0) 53 0) 52 2 53) 54 0) 52 3 54)
def cH_24 : jH := (jhI (jhI (jhn (jhn (jhn cH_23 52) 53) 54) 52 0 0) 52 1 (-1))
set_option maxRecDepth 20000 in
theorem jco_24 {X : jX} {dd : Nat} {Q : Option Value → jS → Prop} (K : jEx X (dd + 3) jc_7 30 [some (.ref 52)] [] (54, cR_24, cH_24) Q) : jEx X (dd + 3) jc_7 0 [some (.ref 52)] [] (52, (jcr (jup cR_23 18 10 49) 52 0), (jhn cH_23 52)) Q := by
  refine jx_next (pc := 0) (pc' := 1) rfl rfl ?_
  refine jx_obj (pc := 1) rfl (by decide) ?_
  refine jx_next (pc := 4) (pc' := 5) rfl rfl ?_
  refine jx_next (pc := 5) (pc' := 7) rfl rfl ?_
  refine jx_newa (pc := 7) (m := 53) rfl rfl (by decide) jks_53 ⟨by decide, by rw [jss_53]; decide⟩ ?_
  refine jx_putr (pc := 9) rfl (jclo_ok (by omega) jks_52) ?_
  refine jx_next (pc := 12) (pc' := 13) rfl rfl ?_
  refine jx_next (pc := 13) (pc' := 15) rfl rfl ?_
  refine jx_newa (pc := 15) (m := 54) rfl rfl (by decide) jks_54 ⟨by decide, by rw [jss_54]; decide⟩ ?_
  refine jx_putr (pc := 17) rfl (jclo_ok (by omega) jks_52) ?_
  refine jx_next (pc := 20) (pc' := 21) rfl rfl ?_
  refine jx_next (pc := 21) (pc' := 22) rfl rfl ?_
  refine jx_puti (pc := 22) rfl (jclo_ok (by omega) jks_52) ?_
  refine jx_next (pc := 25) (pc' := 26) rfl rfl ?_
  refine jx_next (pc := 26) (pc' := 27) rfl rfl ?_
  refine jx_puti (pc := 27) rfl (jclo_ok (by omega) jks_52) ?_
  exact K
def cR_25 : jR := (jup (jcr (jup (jcr (jcr (jup cR_24 18 11 52) 55 0) 56 0) 55 2 56) 57 0) 55 3 57)
def cH_25 : jH := (jhI (jhI (jhn (jhn (jhn cH_24 55) 56) 57) 55 0 0) 55 1 (-1))
set_option maxRecDepth 20000 in
theorem jco_25 {X : jX} {dd : Nat} {Q : Option Value → jS → Prop} (K : jEx X (dd + 3) jc_7 30 [some (.ref 55)] [] (57, cR_25, cH_25) Q) : jEx X (dd + 3) jc_7 0 [some (.ref 55)] [] (55, (jcr (jup cR_24 18 11 52) 55 0), (jhn cH_24 55)) Q := by
  refine jx_next (pc := 0) (pc' := 1) rfl rfl ?_
  refine jx_obj (pc := 1) rfl (by decide) ?_
  refine jx_next (pc := 4) (pc' := 5) rfl rfl ?_
  refine jx_next (pc := 5) (pc' := 7) rfl rfl ?_
  refine jx_newa (pc := 7) (m := 56) rfl rfl (by decide) jks_56 ⟨by decide, by rw [jss_56]; decide⟩ ?_
  refine jx_putr (pc := 9) rfl (jclo_ok (by omega) jks_55) ?_
  refine jx_next (pc := 12) (pc' := 13) rfl rfl ?_
  refine jx_next (pc := 13) (pc' := 15) rfl rfl ?_
  refine jx_newa (pc := 15) (m := 57) rfl rfl (by decide) jks_57 ⟨by decide, by rw [jss_57]; decide⟩ ?_
  refine jx_putr (pc := 17) rfl (jclo_ok (by omega) jks_55) ?_
  refine jx_next (pc := 20) (pc' := 21) rfl rfl ?_
  refine jx_next (pc := 21) (pc' := 22) rfl rfl ?_
  refine jx_puti (pc := 22) rfl (jclo_ok (by omega) jks_55) ?_
  refine jx_next (pc := 25) (pc' := 26) rfl rfl ?_
  refine jx_next (pc := 26) (pc' := 27) rfl rfl ?_
  refine jx_puti (pc := 27) rfl (jclo_ok (by omega) jks_55) ?_
  exact K
def cR_26 : jR := cR_25
def cH_26 : jH := cH_25
set_option maxRecDepth 20000 in
theorem jco_26 {X : jX} {dd : Nat} {Q : Option Value → jS → Prop} (K : jEx X (dd + 4) jc_8 33 [some (.ref 17), some (.int 12)] [.ref 55, .int 12, .ref 18] (57, cR_26, cH_26) Q) : jEx X (dd + 4) jc_8 18 [some (.ref 17), some (.int 10)] [.int 20, .int 10] (48, cR_22, cH_22) Q := by
  refine jx_icge (pc := 18) rfl (fun _ => ?_) (fun hn => absurd (by decide) hn)
  refine jx_next (pc := 21) (pc' := 22) rfl rfl ?_
  refine jx_getr2 (r := 18) (pc := 22) rfl (jclo_ok (by omega) jks_17) rfl ?_
  refine jx_next (pc := 25) (pc' := 26) rfl rfl ?_
  refine jx_newo (pc := 26) (m := 49) rfl rfl (by decide) jks_49 ?_
  refine jx_next (pc := 29) (pc' := 30) rfl rfl ?_
  refine jx_callp (pc := 30) (o := 49) (rest := [.ref 49, .int 10, .ref 18]) rfl ⟨by decide, by decide⟩ rfl (jclo_ok (by omega) jks_49) (Nat.le_of_ble_eq_true rfl) ?_
  refine jCa_of (es := jc_7) (pl := [some (.ref 49)]) (M := jm_7) rfl rfl rfl rfl ?_
  refine jco_23 ?_
  refine jx_ret (pc := 30) rfl rfl ?_
  refine jx_aastv (pc := 33) (j := 10) rfl (jclo_ok (by omega) jks_18) (by decide) jss_18 (by decide) ⟨by omega, (jclo_ok (by omega) jks_49)⟩ ?_
  refine jx_inc (pc := 34) (x := 10) (p2 := [some (.ref 17), some (.int 11)]) rfl rfl (jlt rfl) (by decide) ?_
  refine jx_next (pc := 37) (pc' := 15) rfl rfl ?_
  refine jx_next (pc := 15) (pc' := 16) rfl rfl ?_
  refine jx_next (pc := 16) (pc' := 18) rfl rfl ?_
  refine jx_icge (pc := 18) rfl (fun _ => ?_) (fun hn => absurd (by decide) hn)
  refine jx_next (pc := 21) (pc' := 22) rfl rfl ?_
  refine jx_getr2 (r := 18) (pc := 22) rfl (jclo_ok (by omega) jks_17) rfl ?_
  refine jx_next (pc := 25) (pc' := 26) rfl rfl ?_
  refine jx_newo (pc := 26) (m := 52) rfl rfl (by decide) jks_52 ?_
  refine jx_next (pc := 29) (pc' := 30) rfl rfl ?_
  refine jx_callp (pc := 30) (o := 52) (rest := [.ref 52, .int 11, .ref 18]) rfl ⟨by decide, by decide⟩ rfl (jclo_ok (by omega) jks_52) (Nat.le_of_ble_eq_true rfl) ?_
  refine jCa_of (es := jc_7) (pl := [some (.ref 52)]) (M := jm_7) rfl rfl rfl rfl ?_
  refine jco_24 ?_
  refine jx_ret (pc := 30) rfl rfl ?_
  refine jx_aastv (pc := 33) (j := 11) rfl (jclo_ok (by omega) jks_18) (by decide) jss_18 (by decide) ⟨by omega, (jclo_ok (by omega) jks_52)⟩ ?_
  refine jx_inc (pc := 34) (x := 11) (p2 := [some (.ref 17), some (.int 12)]) rfl rfl (jlt rfl) (by decide) ?_
  refine jx_next (pc := 37) (pc' := 15) rfl rfl ?_
  refine jx_next (pc := 15) (pc' := 16) rfl rfl ?_
  refine jx_next (pc := 16) (pc' := 18) rfl rfl ?_
  refine jx_icge (pc := 18) rfl (fun _ => ?_) (fun hn => absurd (by decide) hn)
  refine jx_next (pc := 21) (pc' := 22) rfl rfl ?_
  refine jx_getr2 (r := 18) (pc := 22) rfl (jclo_ok (by omega) jks_17) rfl ?_
  refine jx_next (pc := 25) (pc' := 26) rfl rfl ?_
  refine jx_newo (pc := 26) (m := 55) rfl rfl (by decide) jks_55 ?_
  refine jx_next (pc := 29) (pc' := 30) rfl rfl ?_
  refine jx_callp (pc := 30) (o := 55) (rest := [.ref 55, .int 12, .ref 18]) rfl ⟨by decide, by decide⟩ rfl (jclo_ok (by omega) jks_55) (Nat.le_of_ble_eq_true rfl) ?_
  refine jCa_of (es := jc_7) (pl := [some (.ref 55)]) (M := jm_7) rfl rfl rfl rfl ?_
  refine jco_25 ?_
  refine jx_ret (pc := 30) rfl rfl ?_
  exact K
def cR_27 : jR := (jup (jcr (jup (jcr (jcr (jup cR_26 18 12 55) 58 0) 59 0) 58 2 59) 60 0) 58 3 60)
def cH_27 : jH := (jhI (jhI (jhn (jhn (jhn cH_26 58) 59) 60) 58 0 0) 58 1 (-1))
set_option maxRecDepth 20000 in
theorem jco_27 {X : jX} {dd : Nat} {Q : Option Value → jS → Prop} (K : jEx X (dd + 3) jc_7 30 [some (.ref 58)] [] (60, cR_27, cH_27) Q) : jEx X (dd + 3) jc_7 0 [some (.ref 58)] [] (58, (jcr (jup cR_26 18 12 55) 58 0), (jhn cH_26 58)) Q := by
  refine jx_next (pc := 0) (pc' := 1) rfl rfl ?_
  refine jx_obj (pc := 1) rfl (by decide) ?_
  refine jx_next (pc := 4) (pc' := 5) rfl rfl ?_
  refine jx_next (pc := 5) (pc' := 7) rfl rfl ?_
  refine jx_newa (pc := 7) (m := 59) rfl rfl (by decide) jks_59 ⟨by decide, by rw [jss_59]; decide⟩ ?_
  refine jx_putr (pc := 9) rfl (jclo_ok (by omega) jks_58) ?_
  refine jx_next (pc := 12) (pc' := 13) rfl rfl ?_
  refine jx_next (pc := 13) (pc' := 15) rfl rfl ?_
  refine jx_newa (pc := 15) (m := 60) rfl rfl (by decide) jks_60 ⟨by decide, by rw [jss_60]; decide⟩ ?_
  refine jx_putr (pc := 17) rfl (jclo_ok (by omega) jks_58) ?_
  refine jx_next (pc := 20) (pc' := 21) rfl rfl ?_
  refine jx_next (pc := 21) (pc' := 22) rfl rfl ?_
  refine jx_puti (pc := 22) rfl (jclo_ok (by omega) jks_58) ?_
  refine jx_next (pc := 25) (pc' := 26) rfl rfl ?_
  refine jx_next (pc := 26) (pc' := 27) rfl rfl ?_
  refine jx_puti (pc := 27) rfl (jclo_ok (by omega) jks_58) ?_
  exact K
def cR_28 : jR := (jup (jcr (jup (jcr (jcr (jup cR_27 18 13 58) 61 0) 62 0) 61 2 62) 63 0) 61 3 63)
def cH_28 : jH := (jhI (jhI (jhn (jhn (jhn cH_27 61) 62) 63) 61 0 0) 61 1 (-1))
set_option maxRecDepth 20000 in
theorem jco_28 {X : jX} {dd : Nat} {Q : Option Value → jS → Prop} (K : jEx X (dd + 3) jc_7 30 [some (.ref 61)] [] (63, cR_28, cH_28) Q) : jEx X (dd + 3) jc_7 0 [some (.ref 61)] [] (61, (jcr (jup cR_27 18 13 58) 61 0), (jhn cH_27 61)) Q := by
  refine jx_next (pc := 0) (pc' := 1) rfl rfl ?_
  refine jx_obj (pc := 1) rfl (by decide) ?_
  refine jx_next (pc := 4) (pc' := 5) rfl rfl ?_
  refine jx_next (pc := 5) (pc' := 7) rfl rfl ?_
  refine jx_newa (pc := 7) (m := 62) rfl rfl (by decide) jks_62 ⟨by decide, by rw [jss_62]; decide⟩ ?_
  refine jx_putr (pc := 9) rfl (jclo_ok (by omega) jks_61) ?_
  refine jx_next (pc := 12) (pc' := 13) rfl rfl ?_
  refine jx_next (pc := 13) (pc' := 15) rfl rfl ?_
  refine jx_newa (pc := 15) (m := 63) rfl rfl (by decide) jks_63 ⟨by decide, by rw [jss_63]; decide⟩ ?_
  refine jx_putr (pc := 17) rfl (jclo_ok (by omega) jks_61) ?_
  refine jx_next (pc := 20) (pc' := 21) rfl rfl ?_
  refine jx_next (pc := 21) (pc' := 22) rfl rfl ?_
  refine jx_puti (pc := 22) rfl (jclo_ok (by omega) jks_61) ?_
  refine jx_next (pc := 25) (pc' := 26) rfl rfl ?_
  refine jx_next (pc := 26) (pc' := 27) rfl rfl ?_
  refine jx_puti (pc := 27) rfl (jclo_ok (by omega) jks_61) ?_
  exact K
def cR_29 : jR := (jcr (jup cR_28 18 14 61) 64 0)
def cH_29 : jH := (jhn cH_28 64)
set_option maxRecDepth 20000 in
theorem jco_29 {X : jX} {dd : Nat} {Q : Option Value → jS → Prop} (K : jEx X (dd + 4) jc_8 29 [some (.ref 17), some (.int 15)] [.ref 64, .int 15, .ref 18] (64, cR_29, cH_29) Q) : jEx X (dd + 4) jc_8 33 [some (.ref 17), some (.int 12)] [.ref 55, .int 12, .ref 18] (57, cR_26, cH_26) Q := by
  refine jx_aastv (pc := 33) (j := 12) rfl (jclo_ok (by omega) jks_18) (by decide) jss_18 (by decide) ⟨by omega, (jclo_ok (by omega) jks_55)⟩ ?_
  refine jx_inc (pc := 34) (x := 12) (p2 := [some (.ref 17), some (.int 13)]) rfl rfl (jlt rfl) (by decide) ?_
  refine jx_next (pc := 37) (pc' := 15) rfl rfl ?_
  refine jx_next (pc := 15) (pc' := 16) rfl rfl ?_
  refine jx_next (pc := 16) (pc' := 18) rfl rfl ?_
  refine jx_icge (pc := 18) rfl (fun _ => ?_) (fun hn => absurd (by decide) hn)
  refine jx_next (pc := 21) (pc' := 22) rfl rfl ?_
  refine jx_getr2 (r := 18) (pc := 22) rfl (jclo_ok (by omega) jks_17) rfl ?_
  refine jx_next (pc := 25) (pc' := 26) rfl rfl ?_
  refine jx_newo (pc := 26) (m := 58) rfl rfl (by decide) jks_58 ?_
  refine jx_next (pc := 29) (pc' := 30) rfl rfl ?_
  refine jx_callp (pc := 30) (o := 58) (rest := [.ref 58, .int 13, .ref 18]) rfl ⟨by decide, by decide⟩ rfl (jclo_ok (by omega) jks_58) (Nat.le_of_ble_eq_true rfl) ?_
  refine jCa_of (es := jc_7) (pl := [some (.ref 58)]) (M := jm_7) rfl rfl rfl rfl ?_
  refine jco_27 ?_
  refine jx_ret (pc := 30) rfl rfl ?_
  refine jx_aastv (pc := 33) (j := 13) rfl (jclo_ok (by omega) jks_18) (by decide) jss_18 (by decide) ⟨by omega, (jclo_ok (by omega) jks_58)⟩ ?_
  refine jx_inc (pc := 34) (x := 13) (p2 := [some (.ref 17), some (.int 14)]) rfl rfl (jlt rfl) (by decide) ?_
  refine jx_next (pc := 37) (pc' := 15) rfl rfl ?_
  refine jx_next (pc := 15) (pc' := 16) rfl rfl ?_
  refine jx_next (pc := 16) (pc' := 18) rfl rfl ?_
  refine jx_icge (pc := 18) rfl (fun _ => ?_) (fun hn => absurd (by decide) hn)
  refine jx_next (pc := 21) (pc' := 22) rfl rfl ?_
  refine jx_getr2 (r := 18) (pc := 22) rfl (jclo_ok (by omega) jks_17) rfl ?_
  refine jx_next (pc := 25) (pc' := 26) rfl rfl ?_
  refine jx_newo (pc := 26) (m := 61) rfl rfl (by decide) jks_61 ?_
  refine jx_next (pc := 29) (pc' := 30) rfl rfl ?_
  refine jx_callp (pc := 30) (o := 61) (rest := [.ref 61, .int 14, .ref 18]) rfl ⟨by decide, by decide⟩ rfl (jclo_ok (by omega) jks_61) (Nat.le_of_ble_eq_true rfl) ?_
  refine jCa_of (es := jc_7) (pl := [some (.ref 61)]) (M := jm_7) rfl rfl rfl rfl ?_
  refine jco_28 ?_
  refine jx_ret (pc := 30) rfl rfl ?_
  refine jx_aastv (pc := 33) (j := 14) rfl (jclo_ok (by omega) jks_18) (by decide) jss_18 (by decide) ⟨by omega, (jclo_ok (by omega) jks_61)⟩ ?_
  refine jx_inc (pc := 34) (x := 14) (p2 := [some (.ref 17), some (.int 15)]) rfl rfl (jlt rfl) (by decide) ?_
  refine jx_next (pc := 37) (pc' := 15) rfl rfl ?_
  refine jx_next (pc := 15) (pc' := 16) rfl rfl ?_
  refine jx_next (pc := 16) (pc' := 18) rfl rfl ?_
  refine jx_icge (pc := 18) rfl (fun _ => ?_) (fun hn => absurd (by decide) hn)
  refine jx_next (pc := 21) (pc' := 22) rfl rfl ?_
  refine jx_getr2 (r := 18) (pc := 22) rfl (jclo_ok (by omega) jks_17) rfl ?_
  refine jx_next (pc := 25) (pc' := 26) rfl rfl ?_
  refine jx_newo (pc := 26) (m := 64) rfl rfl (by decide) jks_64 ?_
  exact K
def cR_30 : jR := (jup (jcr (jup (jcr cR_29 65 0) 64 2 65) 66 0) 64 3 66)
def cH_30 : jH := (jhI (jhI (jhn (jhn cH_29 65) 66) 64 0 0) 64 1 (-1))
set_option maxRecDepth 20000 in
theorem jco_30 {X : jX} {dd : Nat} {Q : Option Value → jS → Prop} (K : jEx X (dd + 3) jc_7 30 [some (.ref 64)] [] (66, cR_30, cH_30) Q) : jEx X (dd + 3) jc_7 0 [some (.ref 64)] [] (64, cR_29, cH_29) Q := by
  refine jx_next (pc := 0) (pc' := 1) rfl rfl ?_
  refine jx_obj (pc := 1) rfl (by decide) ?_
  refine jx_next (pc := 4) (pc' := 5) rfl rfl ?_
  refine jx_next (pc := 5) (pc' := 7) rfl rfl ?_
  refine jx_newa (pc := 7) (m := 65) rfl rfl (by decide) jks_65 ⟨by decide, by rw [jss_65]; decide⟩ ?_
  refine jx_putr (pc := 9) rfl (jclo_ok (by omega) jks_64) ?_
  refine jx_next (pc := 12) (pc' := 13) rfl rfl ?_
  refine jx_next (pc := 13) (pc' := 15) rfl rfl ?_
  refine jx_newa (pc := 15) (m := 66) rfl rfl (by decide) jks_66 ⟨by decide, by rw [jss_66]; decide⟩ ?_
  refine jx_putr (pc := 17) rfl (jclo_ok (by omega) jks_64) ?_
  refine jx_next (pc := 20) (pc' := 21) rfl rfl ?_
  refine jx_next (pc := 21) (pc' := 22) rfl rfl ?_
  refine jx_puti (pc := 22) rfl (jclo_ok (by omega) jks_64) ?_
  refine jx_next (pc := 25) (pc' := 26) rfl rfl ?_
  refine jx_next (pc := 26) (pc' := 27) rfl rfl ?_
  refine jx_puti (pc := 27) rfl (jclo_ok (by omega) jks_64) ?_
  exact K
def cR_31 : jR := (jup (jcr (jup (jcr (jcr (jup cR_30 18 15 64) 67 0) 68 0) 67 2 68) 69 0) 67 3 69)
def cH_31 : jH := (jhI (jhI (jhn (jhn (jhn cH_30 67) 68) 69) 67 0 0) 67 1 (-1))
set_option maxRecDepth 20000 in
theorem jco_31 {X : jX} {dd : Nat} {Q : Option Value → jS → Prop} (K : jEx X (dd + 3) jc_7 30 [some (.ref 67)] [] (69, cR_31, cH_31) Q) : jEx X (dd + 3) jc_7 0 [some (.ref 67)] [] (67, (jcr (jup cR_30 18 15 64) 67 0), (jhn cH_30 67)) Q := by
  refine jx_next (pc := 0) (pc' := 1) rfl rfl ?_
  refine jx_obj (pc := 1) rfl (by decide) ?_
  refine jx_next (pc := 4) (pc' := 5) rfl rfl ?_
  refine jx_next (pc := 5) (pc' := 7) rfl rfl ?_
  refine jx_newa (pc := 7) (m := 68) rfl rfl (by decide) jks_68 ⟨by decide, by rw [jss_68]; decide⟩ ?_
  refine jx_putr (pc := 9) rfl (jclo_ok (by omega) jks_67) ?_
  refine jx_next (pc := 12) (pc' := 13) rfl rfl ?_
  refine jx_next (pc := 13) (pc' := 15) rfl rfl ?_
  refine jx_newa (pc := 15) (m := 69) rfl rfl (by decide) jks_69 ⟨by decide, by rw [jss_69]; decide⟩ ?_
  refine jx_putr (pc := 17) rfl (jclo_ok (by omega) jks_67) ?_
  refine jx_next (pc := 20) (pc' := 21) rfl rfl ?_
  refine jx_next (pc := 21) (pc' := 22) rfl rfl ?_
  refine jx_puti (pc := 22) rfl (jclo_ok (by omega) jks_67) ?_
  refine jx_next (pc := 25) (pc' := 26) rfl rfl ?_
  refine jx_next (pc := 26) (pc' := 27) rfl rfl ?_
  refine jx_puti (pc := 27) rfl (jclo_ok (by omega) jks_67) ?_
  exact K
def cR_32 : jR := (jup (jcr (jup (jcr (jcr (jup cR_31 18 16 67) 70 0) 71 0) 70 2 71) 72 0) 70 3 72)
def cH_32 : jH := (jhI (jhI (jhn (jhn (jhn cH_31 70) 71) 72) 70 0 0) 70 1 (-1))
set_option maxRecDepth 20000 in
theorem jco_32 {X : jX} {dd : Nat} {Q : Option Value → jS → Prop} (K : jEx X (dd + 3) jc_7 30 [some (.ref 70)] [] (72, cR_32, cH_32) Q) : jEx X (dd + 3) jc_7 0 [some (.ref 70)] [] (70, (jcr (jup cR_31 18 16 67) 70 0), (jhn cH_31 70)) Q := by
  refine jx_next (pc := 0) (pc' := 1) rfl rfl ?_
  refine jx_obj (pc := 1) rfl (by decide) ?_
  refine jx_next (pc := 4) (pc' := 5) rfl rfl ?_
  refine jx_next (pc := 5) (pc' := 7) rfl rfl ?_
  refine jx_newa (pc := 7) (m := 71) rfl rfl (by decide) jks_71 ⟨by decide, by rw [jss_71]; decide⟩ ?_
  refine jx_putr (pc := 9) rfl (jclo_ok (by omega) jks_70) ?_
  refine jx_next (pc := 12) (pc' := 13) rfl rfl ?_
  refine jx_next (pc := 13) (pc' := 15) rfl rfl ?_
  refine jx_newa (pc := 15) (m := 72) rfl rfl (by decide) jks_72 ⟨by decide, by rw [jss_72]; decide⟩ ?_
  refine jx_putr (pc := 17) rfl (jclo_ok (by omega) jks_70) ?_
  refine jx_next (pc := 20) (pc' := 21) rfl rfl ?_
  refine jx_next (pc := 21) (pc' := 22) rfl rfl ?_
  refine jx_puti (pc := 22) rfl (jclo_ok (by omega) jks_70) ?_
  refine jx_next (pc := 25) (pc' := 26) rfl rfl ?_
  refine jx_next (pc := 26) (pc' := 27) rfl rfl ?_
  refine jx_puti (pc := 27) rfl (jclo_ok (by omega) jks_70) ?_
  exact K
def cR_33 : jR := (jup cR_32 18 17 70)
def cH_33 : jH := cH_32
set_option maxRecDepth 20000 in
theorem jco_33 {X : jX} {dd : Nat} {Q : Option Value → jS → Prop} (K : jEx X (dd + 4) jc_8 18 [some (.ref 17), some (.int 18)] [.int 20, .int 18] (72, cR_33, cH_33) Q) : jEx X (dd + 4) jc_8 29 [some (.ref 17), some (.int 15)] [.ref 64, .int 15, .ref 18] (64, cR_29, cH_29) Q := by
  refine jx_next (pc := 29) (pc' := 30) rfl rfl ?_
  refine jx_callp (pc := 30) (o := 64) (rest := [.ref 64, .int 15, .ref 18]) rfl ⟨by decide, by decide⟩ rfl (jclo_ok (by omega) jks_64) (Nat.le_of_ble_eq_true rfl) ?_
  refine jCa_of (es := jc_7) (pl := [some (.ref 64)]) (M := jm_7) rfl rfl rfl rfl ?_
  refine jco_30 ?_
  refine jx_ret (pc := 30) rfl rfl ?_
  refine jx_aastv (pc := 33) (j := 15) rfl (jclo_ok (by omega) jks_18) (by decide) jss_18 (by decide) ⟨by omega, (jclo_ok (by omega) jks_64)⟩ ?_
  refine jx_inc (pc := 34) (x := 15) (p2 := [some (.ref 17), some (.int 16)]) rfl rfl (jlt rfl) (by decide) ?_
  refine jx_next (pc := 37) (pc' := 15) rfl rfl ?_
  refine jx_next (pc := 15) (pc' := 16) rfl rfl ?_
  refine jx_next (pc := 16) (pc' := 18) rfl rfl ?_
  refine jx_icge (pc := 18) rfl (fun _ => ?_) (fun hn => absurd (by decide) hn)
  refine jx_next (pc := 21) (pc' := 22) rfl rfl ?_
  refine jx_getr2 (r := 18) (pc := 22) rfl (jclo_ok (by omega) jks_17) rfl ?_
  refine jx_next (pc := 25) (pc' := 26) rfl rfl ?_
  refine jx_newo (pc := 26) (m := 67) rfl rfl (by decide) jks_67 ?_
  refine jx_next (pc := 29) (pc' := 30) rfl rfl ?_
  refine jx_callp (pc := 30) (o := 67) (rest := [.ref 67, .int 16, .ref 18]) rfl ⟨by decide, by decide⟩ rfl (jclo_ok (by omega) jks_67) (Nat.le_of_ble_eq_true rfl) ?_
  refine jCa_of (es := jc_7) (pl := [some (.ref 67)]) (M := jm_7) rfl rfl rfl rfl ?_
  refine jco_31 ?_
  refine jx_ret (pc := 30) rfl rfl ?_
  refine jx_aastv (pc := 33) (j := 16) rfl (jclo_ok (by omega) jks_18) (by decide) jss_18 (by decide) ⟨by omega, (jclo_ok (by omega) jks_67)⟩ ?_
  refine jx_inc (pc := 34) (x := 16) (p2 := [some (.ref 17), some (.int 17)]) rfl rfl (jlt rfl) (by decide) ?_
  refine jx_next (pc := 37) (pc' := 15) rfl rfl ?_
  refine jx_next (pc := 15) (pc' := 16) rfl rfl ?_
  refine jx_next (pc := 16) (pc' := 18) rfl rfl ?_
  refine jx_icge (pc := 18) rfl (fun _ => ?_) (fun hn => absurd (by decide) hn)
  refine jx_next (pc := 21) (pc' := 22) rfl rfl ?_
  refine jx_getr2 (r := 18) (pc := 22) rfl (jclo_ok (by omega) jks_17) rfl ?_
  refine jx_next (pc := 25) (pc' := 26) rfl rfl ?_
  refine jx_newo (pc := 26) (m := 70) rfl rfl (by decide) jks_70 ?_
  refine jx_next (pc := 29) (pc' := 30) rfl rfl ?_
  refine jx_callp (pc := 30) (o := 70) (rest := [.ref 70, .int 17, .ref 18]) rfl ⟨by decide, by decide⟩ rfl (jclo_ok (by omega) jks_70) (Nat.le_of_ble_eq_true rfl) ?_
  refine jCa_of (es := jc_7) (pl := [some (.ref 70)]) (M := jm_7) rfl rfl rfl rfl ?_
  refine jco_32 ?_
  refine jx_ret (pc := 30) rfl rfl ?_
  refine jx_aastv (pc := 33) (j := 17) rfl (jclo_ok (by omega) jks_18) (by decide) jss_18 (by decide) ⟨by omega, (jclo_ok (by omega) jks_70)⟩ ?_
  refine jx_inc (pc := 34) (x := 17) (p2 := [some (.ref 17), some (.int 18)]) rfl rfl (jlt rfl) (by decide) ?_
  refine jx_next (pc := 37) (pc' := 15) rfl rfl ?_
  refine jx_next (pc := 15) (pc' := 16) rfl rfl ?_
  refine jx_next (pc := 16) (pc' := 18) rfl rfl ?_
  exact K
def cR_34 : jR := (jup (jcr (jup (jcr (jcr cR_33 73 0) 74 0) 73 2 74) 75 0) 73 3 75)
def cH_34 : jH := (jhI (jhI (jhn (jhn (jhn cH_33 73) 74) 75) 73 0 0) 73 1 (-1))
set_option maxRecDepth 20000 in
theorem jco_34 {X : jX} {dd : Nat} {Q : Option Value → jS → Prop} (K : jEx X (dd + 3) jc_7 30 [some (.ref 73)] [] (75, cR_34, cH_34) Q) : jEx X (dd + 3) jc_7 0 [some (.ref 73)] [] (73, (jcr cR_33 73 0), (jhn cH_33 73)) Q := by
  refine jx_next (pc := 0) (pc' := 1) rfl rfl ?_
  refine jx_obj (pc := 1) rfl (by decide) ?_
  refine jx_next (pc := 4) (pc' := 5) rfl rfl ?_
  refine jx_next (pc := 5) (pc' := 7) rfl rfl ?_
  refine jx_newa (pc := 7) (m := 74) rfl rfl (by decide) jks_74 ⟨by decide, by rw [jss_74]; decide⟩ ?_
  refine jx_putr (pc := 9) rfl (jclo_ok (by omega) jks_73) ?_
  refine jx_next (pc := 12) (pc' := 13) rfl rfl ?_
  refine jx_next (pc := 13) (pc' := 15) rfl rfl ?_
  refine jx_newa (pc := 15) (m := 75) rfl rfl (by decide) jks_75 ⟨by decide, by rw [jss_75]; decide⟩ ?_
  refine jx_putr (pc := 17) rfl (jclo_ok (by omega) jks_73) ?_
  refine jx_next (pc := 20) (pc' := 21) rfl rfl ?_
  refine jx_next (pc := 21) (pc' := 22) rfl rfl ?_
  refine jx_puti (pc := 22) rfl (jclo_ok (by omega) jks_73) ?_
  refine jx_next (pc := 25) (pc' := 26) rfl rfl ?_
  refine jx_next (pc := 26) (pc' := 27) rfl rfl ?_
  refine jx_puti (pc := 27) rfl (jclo_ok (by omega) jks_73) ?_
  exact K
def cR_35 : jR := (jup (jcr (jup (jcr (jcr (jup cR_34 18 18 73) 76 0) 77 0) 76 2 77) 78 0) 76 3 78)
def cH_35 : jH := (jhI (jhI (jhn (jhn (jhn cH_34 76) 77) 78) 76 0 0) 76 1 (-1))
set_option maxRecDepth 20000 in
theorem jco_35 {X : jX} {dd : Nat} {Q : Option Value → jS → Prop} (K : jEx X (dd + 3) jc_7 30 [some (.ref 76)] [] (78, cR_35, cH_35) Q) : jEx X (dd + 3) jc_7 0 [some (.ref 76)] [] (76, (jcr (jup cR_34 18 18 73) 76 0), (jhn cH_34 76)) Q := by
  refine jx_next (pc := 0) (pc' := 1) rfl rfl ?_
  refine jx_obj (pc := 1) rfl (by decide) ?_
  refine jx_next (pc := 4) (pc' := 5) rfl rfl ?_
  refine jx_next (pc := 5) (pc' := 7) rfl rfl ?_
  refine jx_newa (pc := 7) (m := 77) rfl rfl (by decide) jks_77 ⟨by decide, by rw [jss_77]; decide⟩ ?_
  refine jx_putr (pc := 9) rfl (jclo_ok (by omega) jks_76) ?_
  refine jx_next (pc := 12) (pc' := 13) rfl rfl ?_
  refine jx_next (pc := 13) (pc' := 15) rfl rfl ?_
  refine jx_newa (pc := 15) (m := 78) rfl rfl (by decide) jks_78 ⟨by decide, by rw [jss_78]; decide⟩ ?_
  refine jx_putr (pc := 17) rfl (jclo_ok (by omega) jks_76) ?_
  refine jx_next (pc := 20) (pc' := 21) rfl rfl ?_
  refine jx_next (pc := 21) (pc' := 22) rfl rfl ?_
  refine jx_puti (pc := 22) rfl (jclo_ok (by omega) jks_76) ?_
  refine jx_next (pc := 25) (pc' := 26) rfl rfl ?_
  refine jx_next (pc := 26) (pc' := 27) rfl rfl ?_
  refine jx_puti (pc := 27) rfl (jclo_ok (by omega) jks_76) ?_
  exact K
def cR_36 : jR := (jup cR_35 18 19 76)
def cH_36 : jH := (jhI cH_35 17 1 0)
set_option maxRecDepth 20000 in
theorem jco_36 {X : jX} {dd : Nat} {Q : Option Value → jS → Prop} (K : jEx X (dd + 4) jc_8 45 [some (.ref 17), some (.int 20)] [] (78, cR_36, cH_36) Q) : jEx X (dd + 4) jc_8 18 [some (.ref 17), some (.int 18)] [.int 20, .int 18] (72, cR_33, cH_33) Q := by
  refine jx_icge (pc := 18) rfl (fun _ => ?_) (fun hn => absurd (by decide) hn)
  refine jx_next (pc := 21) (pc' := 22) rfl rfl ?_
  refine jx_getr2 (r := 18) (pc := 22) rfl (jclo_ok (by omega) jks_17) rfl ?_
  refine jx_next (pc := 25) (pc' := 26) rfl rfl ?_
  refine jx_newo (pc := 26) (m := 73) rfl rfl (by decide) jks_73 ?_
  refine jx_next (pc := 29) (pc' := 30) rfl rfl ?_
  refine jx_callp (pc := 30) (o := 73) (rest := [.ref 73, .int 18, .ref 18]) rfl ⟨by decide, by decide⟩ rfl (jclo_ok (by omega) jks_73) (Nat.le_of_ble_eq_true rfl) ?_
  refine jCa_of (es := jc_7) (pl := [some (.ref 73)]) (M := jm_7) rfl rfl rfl rfl ?_
  refine jco_34 ?_
  refine jx_ret (pc := 30) rfl rfl ?_
  refine jx_aastv (pc := 33) (j := 18) rfl (jclo_ok (by omega) jks_18) (by decide) jss_18 (by decide) ⟨by omega, (jclo_ok (by omega) jks_73)⟩ ?_
  refine jx_inc (pc := 34) (x := 18) (p2 := [some (.ref 17), some (.int 19)]) rfl rfl (jlt rfl) (by decide) ?_
  refine jx_next (pc := 37) (pc' := 15) rfl rfl ?_
  refine jx_next (pc := 15) (pc' := 16) rfl rfl ?_
  refine jx_next (pc := 16) (pc' := 18) rfl rfl ?_
  refine jx_icge (pc := 18) rfl (fun _ => ?_) (fun hn => absurd (by decide) hn)
  refine jx_next (pc := 21) (pc' := 22) rfl rfl ?_
  refine jx_getr2 (r := 18) (pc := 22) rfl (jclo_ok (by omega) jks_17) rfl ?_
  refine jx_next (pc := 25) (pc' := 26) rfl rfl ?_
  refine jx_newo (pc := 26) (m := 76) rfl rfl (by decide) jks_76 ?_
  refine jx_next (pc := 29) (pc' := 30) rfl rfl ?_
  refine jx_callp (pc := 30) (o := 76) (rest := [.ref 76, .int 19, .ref 18]) rfl ⟨by decide, by decide⟩ rfl (jclo_ok (by omega) jks_76) (Nat.le_of_ble_eq_true rfl) ?_
  refine jCa_of (es := jc_7) (pl := [some (.ref 76)]) (M := jm_7) rfl rfl rfl rfl ?_
  refine jco_35 ?_
  refine jx_ret (pc := 30) rfl rfl ?_
  refine jx_aastv (pc := 33) (j := 19) rfl (jclo_ok (by omega) jks_18) (by decide) jss_18 (by decide) ⟨by omega, (jclo_ok (by omega) jks_76)⟩ ?_
  refine jx_inc (pc := 34) (x := 19) (p2 := [some (.ref 17), some (.int 20)]) rfl rfl (jlt rfl) (by decide) ?_
  refine jx_next (pc := 37) (pc' := 15) rfl rfl ?_
  refine jx_next (pc := 15) (pc' := 16) rfl rfl ?_
  refine jx_next (pc := 16) (pc' := 18) rfl rfl ?_
  refine jx_icge (pc := 18) rfl (fun hn => absurd hn (by decide)) (fun _ => ?_)
  refine jx_next (pc := 40) (pc' := 41) rfl rfl ?_
  refine jx_next (pc := 41) (pc' := 42) rfl rfl ?_
  refine jx_puti (pc := 42) rfl (jclo_ok (by omega) jks_17) ?_
  exact K
def cR_37 : jR := (jup (jcr (jup (jcr (jcr (jup (jcr (jup (jcr (jup (jcr (jup (jcr (jup (jcr (jup (jcr (jup (jcr (jup (jcr (jcr (jup (jcr (jup (jcr (jup (jup (jcr (jcr (jup (jcr (jup cR_36 1 7 17) 79 0) 79 0 11) 80 0) 81 0) 80 0 81) 79 1 80) 82 0) 79 2 82) 83 0) 79 3 83) 84 0) 85 0) 84 10 85) 86 0) 84 11 86) 87 0) 84 12 87) 88 0) 84 13 88) 89 0) 84 14 89) 90 0) 84 15 90) 91 0) 84 16 91) 92 0) 84 17 92) 93 0) 94 0) 93 0 94) 95 0) 93 1 95)
def cH_37 : jH := (jhI (jhI (jhn (jhn (jhn (jhn (jhn (jhn (jhn (jhn (jhn (jhn (jhn (jhn (jhn (jhn (jhn (jhn (jhn cH_36 79) 80) 81) 82) 83) 84) 85) 86) 87) 88) 89) 90) 91) 92) 93) 94) 95) 93 2 0) 93 3 0)
set_option maxRecDepth 20000 in
theorem jco_37 {X : jX} {dd : Nat} {Q : Option Value → jS → Prop} (K : jEx X (dd + 2) jc_6 31 [some (.ref 93)] [] (95, cR_37, cH_37) Q) : jEx X (dd + 2) jc_6 0 [some (.ref 93)] [] (93, (jcr (jup (jcr (jup (jcr (jup (jcr (jup (jcr (jup (jcr (jup (jcr (jup (jcr (jup (jcr (jcr (jup (jcr (jup (jcr (jup (jup (jcr (jcr (jup (jcr (jup cR_36 1 7 17) 79 0) 79 0 11) 80 0) 81 0) 80 0 81) 79 1 80) 82 0) 79 2 82) 83 0) 79 3 83) 84 0) 85 0) 84 10 85) 86 0) 84 11 86) 87 0) 84 12 87) 88 0) 84 13 88) 89 0) 84 14 89) 90 0) 84 15 90) 91 0) 84 16 91) 92 0) 84 17 92) 93 0), (jhn (jhn (jhn (jhn (jhn (jhn (jhn (jhn (jhn (jhn (jhn (jhn (jhn (jhn (jhn cH_36 79) 80) 81) 82) 83) 84) 85) 86) 87) 88) 89) 90) 91) 92) 93)) Q := by
  refine jx_next (pc := 0) (pc' := 1) rfl rfl ?_
  refine jx_obj (pc := 1) rfl (by decide) ?_
  refine jx_next (pc := 4) (pc' := 5) rfl rfl ?_
  refine jx_next (pc := 5) (pc' := 8) rfl rfl ?_
  refine jx_newa (pc := 8) (m := 94) rfl rfl (by decide) jks_94 ⟨by decide, by rw [jss_94]; decide⟩ ?_
  refine jx_putr (pc := 10) rfl (jclo_ok (by omega) jks_93) ?_
  refine jx_next (pc := 13) (pc' := 14) rfl rfl ?_
  refine jx_next (pc := 14) (pc' := 16) rfl rfl ?_
  refine jx_newa (pc := 16) (m := 95) rfl rfl (by decide) jks_95 ⟨by decide, by rw [jss_95]; decide⟩ ?_
  refine jx_putr (pc := 18) rfl (jclo_ok (by omega) jks_93) ?_
  refine jx_next (pc := 21) (pc' := 22) rfl rfl ?_
  refine jx_next (pc := 22) (pc' := 23) rfl rfl ?_
  refine jx_puti (pc := 23) rfl (jclo_ok (by omega) jks_93) ?_
  refine jx_next (pc := 26) (pc' := 27) rfl rfl ?_
  refine jx_next (pc := 27) (pc' := 28) rfl rfl ?_
  refine jx_putz (pc := 28) rfl (jclo_ok (by omega) jks_93) (Or.inl rfl) ?_
  exact K
def cR_38 : jR := cR_37
def cH_38 : jH := cH_37
set_option maxRecDepth 20000 in
theorem jco_38 {X : jX} {dd : Nat} {Q : Option Value → jS → Prop} (K : jEx X (dd + 3) jc_11 76 [some (.ref 84)] [.ref 93, .ref 84] (95, cR_38, cH_38) Q) : jEx X (dd + 3) jc_11 0 [some (.ref 84)] [] (84, (jcr (jup (jcr (jup (jcr (jup (jup (jcr (jcr (jup (jcr (jup cR_36 1 7 17) 79 0) 79 0 11) 80 0) 81 0) 80 0 81) 79 1 80) 82 0) 79 2 82) 83 0) 79 3 83) 84 0), (jhn (jhn (jhn (jhn (jhn (jhn cH_36 79) 80) 81) 82) 83) 84)) Q := by
  refine jx_next (pc := 0) (pc' := 1) rfl rfl ?_
  refine jx_obj (pc := 1) rfl (by decide) ?_
  refine jx_next (pc := 4) (pc' := 5) rfl rfl ?_
  refine jx_next (pc := 5) (pc' := 7) rfl rfl ?_
  refine jx_newa (pc := 7) (m := 85) rfl rfl (by decide) jks_85 ⟨by decide, by rw [jss_85]; decide⟩ ?_
  refine jx_putr (pc := 9) rfl (jclo_ok (by omega) jks_84) ?_
  refine jx_next (pc := 12) (pc' := 13) rfl rfl ?_
  refine jx_next (pc := 13) (pc' := 15) rfl rfl ?_
  refine jx_newa (pc := 15) (m := 86) rfl rfl (by decide) jks_86 ⟨by decide, by rw [jss_86]; decide⟩ ?_
  refine jx_putr (pc := 17) rfl (jclo_ok (by omega) jks_84) ?_
  refine jx_next (pc := 20) (pc' := 21) rfl rfl ?_
  refine jx_next (pc := 21) (pc' := 23) rfl rfl ?_
  refine jx_newa (pc := 23) (m := 87) rfl rfl (by decide) jks_87 ⟨by decide, by rw [jss_87]; decide⟩ ?_
  refine jx_putr (pc := 25) rfl (jclo_ok (by omega) jks_84) ?_
  refine jx_next (pc := 28) (pc' := 29) rfl rfl ?_
  refine jx_next (pc := 29) (pc' := 31) rfl rfl ?_
  refine jx_newa (pc := 31) (m := 88) rfl rfl (by decide) jks_88 ⟨by decide, by rw [jss_88]; decide⟩ ?_
  refine jx_putr (pc := 33) rfl (jclo_ok (by omega) jks_84) ?_
  refine jx_next (pc := 36) (pc' := 37) rfl rfl ?_
  refine jx_next (pc := 37) (pc' := 39) rfl rfl ?_
  refine jx_newa (pc := 39) (m := 89) rfl rfl (by decide) jks_89 ⟨by decide, by rw [jss_89]; decide⟩ ?_
  refine jx_putr (pc := 41) rfl (jclo_ok (by omega) jks_84) ?_
  refine jx_next (pc := 44) (pc' := 45) rfl rfl ?_
  refine jx_next (pc := 45) (pc' := 47) rfl rfl ?_
  refine jx_newa (pc := 47) (m := 90) rfl rfl (by decide) jks_90 ⟨by decide, by rw [jss_90]; decide⟩ ?_
  refine jx_putr (pc := 49) rfl (jclo_ok (by omega) jks_84) ?_
  refine jx_next (pc := 52) (pc' := 53) rfl rfl ?_
  refine jx_next (pc := 53) (pc' := 55) rfl rfl ?_
  refine jx_newa (pc := 55) (m := 91) rfl rfl (by decide) jks_91 ⟨by decide, by rw [jss_91]; decide⟩ ?_
  refine jx_putr (pc := 57) rfl (jclo_ok (by omega) jks_84) ?_
  refine jx_next (pc := 60) (pc' := 61) rfl rfl ?_
  refine jx_next (pc := 61) (pc' := 63) rfl rfl ?_
  refine jx_newa (pc := 63) (m := 92) rfl rfl (by decide) jks_92 ⟨by decide, by rw [jss_92]; decide⟩ ?_
  refine jx_putr (pc := 65) rfl (jclo_ok (by omega) jks_84) ?_
  refine jx_next (pc := 68) (pc' := 69) rfl rfl ?_
  refine jx_newo (pc := 69) (m := 93) rfl rfl (by decide) jks_93 ?_
  refine jx_next (pc := 72) (pc' := 73) rfl rfl ?_
  refine jx_callp (pc := 73) (o := 93) (rest := [.ref 93, .ref 84]) rfl ⟨by decide, by decide⟩ rfl (jclo_ok (by omega) jks_93) (Nat.le_of_ble_eq_true rfl) ?_
  refine jCa_of (es := jc_6) (pl := [some (.ref 93)]) (M := jm_6) rfl rfl rfl rfl ?_
  refine jco_37 ?_
  refine jx_ret (pc := 31) rfl rfl ?_
  exact K
def cR_39 : jR := (jup (jup cR_38 84 18 93) 79 4 84)
def cH_39 : jH := cH_38
set_option maxRecDepth 20000 in
theorem jco_39 {X : jX} {dd : Nat} {Q : Option Value → jS → Prop} (K : jEx X (dd + 4) jc_9 47 [some (.ref 79), some (.ref 11)] [] (95, cR_39, cH_39) Q) : jEx X (dd + 4) jc_9 0 [some (.ref 79), some (.ref 11)] [] (79, (jcr (jup cR_36 1 7 17) 79 0), (jhn cH_36 79)) Q := by
  refine jx_next (pc := 0) (pc' := 1) rfl rfl ?_
  refine jx_obj (pc := 1) rfl (by decide) ?_
  refine jx_next (pc := 4) (pc' := 5) rfl rfl ?_
  refine jx_next (pc := 5) (pc' := 6) rfl rfl ?_
  refine jx_putr (pc := 6) rfl (jclo_ok (by omega) jks_79) ?_
  refine jx_next (pc := 9) (pc' := 10) rfl rfl ?_
  refine jx_newo (pc := 10) (m := 80) rfl rfl (by decide) jks_80 ?_
  refine jx_next (pc := 13) (pc' := 14) rfl rfl ?_
  refine jx_callp (pc := 14) (o := 80) (rest := [.ref 80, .ref 79]) rfl ⟨by decide, by decide⟩ rfl (jclo_ok (by omega) jks_80) (Nat.le_of_ble_eq_true rfl) ?_
  refine jCa_of (es := jc_10) (pl := [some (.ref 80)]) (M := jm_10) rfl rfl rfl rfl ?_
  refine jx_next (pc := 0) (pc' := 1) rfl rfl ?_
  refine jx_obj (pc := 1) rfl (by decide) ?_
  refine jx_next (pc := 4) (pc' := 5) rfl rfl ?_
  refine jx_next (pc := 5) (pc' := 7) rfl rfl ?_
  refine jx_newa (pc := 7) (m := 81) rfl rfl (by decide) jks_81 ⟨by decide, by rw [jss_81]; decide⟩ ?_
  refine jx_putr (pc := 9) rfl (jclo_ok (by omega) jks_80) ?_
  refine jx_ret (pc := 12) rfl rfl ?_
  refine jx_putr (pc := 17) rfl (jclo_ok (by omega) jks_79) ?_
  refine jx_next (pc := 20) (pc' := 21) rfl rfl ?_
  refine jx_next (pc := 21) (pc' := 23) rfl rfl ?_
  refine jx_newa (pc := 23) (m := 82) rfl rfl (by decide) jks_82 ⟨by decide, by rw [jss_82]; decide⟩ ?_
  refine jx_putr (pc := 25) rfl (jclo_ok (by omega) jks_79) ?_
  refine jx_next (pc := 28) (pc' := 29) rfl rfl ?_
  refine jx_next (pc := 29) (pc' := 31) rfl rfl ?_
  refine jx_newa (pc := 31) (m := 83) rfl rfl (by decide) jks_83 ⟨by decide, by rw [jss_83]; decide⟩ ?_
  refine jx_putr (pc := 33) rfl (jclo_ok (by omega) jks_79) ?_
  refine jx_next (pc := 36) (pc' := 37) rfl rfl ?_
  refine jx_newo (pc := 37) (m := 84) rfl rfl (by decide) jks_84 ?_
  refine jx_next (pc := 40) (pc' := 41) rfl rfl ?_
  refine jx_callp (pc := 41) (o := 84) (rest := [.ref 84, .ref 79]) rfl ⟨by decide, by decide⟩ rfl (jclo_ok (by omega) jks_84) (Nat.le_of_ble_eq_true rfl) ?_
  refine jCa_of (es := jc_11) (pl := [some (.ref 84)]) (M := jm_11) rfl rfl rfl rfl ?_
  refine jco_38 ?_
  refine jx_putr (pc := 76) rfl (jclo_ok (by omega) jks_84) ?_
  refine jx_ret (pc := 79) rfl rfl ?_
  refine jx_putr (pc := 44) rfl (jclo_ok (by omega) jks_79) ?_
  exact K
def cR_40 : jR := (jcr (jup (jup (jcr (jup cR_39 1 8 79) 96 0) 96 0 79) 1 9 96) 97 0)
def cH_40 : jH := (jhn (jhn cH_39 96) 97)
set_option maxRecDepth 20000 in
theorem jco_40 {X : jX} {dd : Nat} {Q : Option Value → jS → Prop} (K : jEx X (dd + 5) jc_0 143 [some (.ref 1)] [.ref 97, .ref 1] (97, cR_40, cH_40) Q) : jEx X (dd + 5) jc_0 101 [some (.ref 1)] [.ref 17, .ref 1] (17, cR_8, cH_8) Q := by
  refine jx_next (pc := 101) (pc' := 102) rfl rfl ?_
  refine jx_callp (pc := 102) (o := 17) (rest := [.ref 17, .ref 1]) rfl ⟨by decide, by decide⟩ rfl (jclo_ok (by omega) jks_17) (Nat.le_of_ble_eq_true rfl) ?_
  refine jCa_of (es := jc_8) (pl := [some (.ref 17), none]) (M := jm_8) rfl rfl rfl rfl ?_
  refine jco_11 ?_
  refine jco_15 ?_
  refine jco_18 ?_
  refine jco_22 ?_
  refine jco_26 ?_
  refine jco_29 ?_
  refine jco_33 ?_
  refine jco_36 ?_
  refine jx_ret (pc := 45) rfl rfl ?_
  refine jx_putr (pc := 105) rfl (jclo_ok (by omega) jks_1) ?_
  refine jx_next (pc := 108) (pc' := 109) rfl rfl ?_
  refine jx_newo (pc := 109) (m := 79) rfl rfl (by decide) jks_79 ?_
  refine jx_next (pc := 112) (pc' := 113) rfl rfl ?_
  refine jx_next (pc := 113) (pc' := 114) rfl rfl ?_
  refine jx_getr2 (r := 11) (pc := 114) rfl (jclo_ok (by omega) jks_1) rfl ?_
  refine jx_callp (pc := 117) (o := 79) (rest := [.ref 79, .ref 1]) rfl ⟨by decide, by decide⟩ rfl (jclo_ok (by omega) jks_79) (Nat.le_of_ble_eq_true rfl) ?_
  refine jCa_of (es := jc_9) (pl := [some (.ref 79), some (.ref 11)]) (M := jm_9) rfl rfl rfl rfl ?_
  refine jco_39 ?_
  refine jx_ret (pc := 47) rfl rfl ?_
  refine jx_putr (pc := 120) rfl (jclo_ok (by omega) jks_1) ?_
  refine jx_next (pc := 123) (pc' := 124) rfl rfl ?_
  refine jx_newo (pc := 124) (m := 96) rfl rfl (by decide) jks_96 ?_
  refine jx_next (pc := 127) (pc' := 128) rfl rfl ?_
  refine jx_next (pc := 128) (pc' := 129) rfl rfl ?_
  refine jx_getr2 (r := 79) (pc := 129) rfl (jclo_ok (by omega) jks_1) rfl ?_
  refine jx_callp (pc := 132) (o := 96) (rest := [.ref 96, .ref 1]) rfl ⟨by decide, by decide⟩ rfl (jclo_ok (by omega) jks_96) (Nat.le_of_ble_eq_true rfl) ?_
  refine jCa_of (es := jc_12) (pl := [some (.ref 96), some (.ref 79)]) (M := jm_12) rfl rfl rfl rfl ?_
  refine jx_next (pc := 0) (pc' := 1) rfl rfl ?_
  refine jx_obj (pc := 1) rfl (by decide) ?_
  refine jx_next (pc := 4) (pc' := 5) rfl rfl ?_
  refine jx_next (pc := 5) (pc' := 6) rfl rfl ?_
  refine jx_putr (pc := 6) rfl (jclo_ok (by omega) jks_96) ?_
  refine jx_ret (pc := 9) rfl rfl ?_
  refine jx_putr (pc := 135) rfl (jclo_ok (by omega) jks_1) ?_
  refine jx_next (pc := 138) (pc' := 139) rfl rfl ?_
  refine jx_next (pc := 139) (pc' := 141) rfl rfl ?_
  refine jx_newa (pc := 141) (m := 97) rfl rfl (by decide) jks_97 ⟨by decide, by rw [jss_97]; decide⟩ ?_
  exact K
def cR_41 : jR := (jup (jcr (jup (jcr (jcr (jup (jcr (jup (jcr (jup (jcr (jup (jcr (jup (jcr (jup (jcr (jup (jcr (jup (jcr (jcr (jup cR_40 1 10 97) 98 0) 99 0) 98 10 99) 100 0) 98 11 100) 101 0) 98 12 101) 102 0) 98 13 102) 103 0) 98 14 103) 104 0) 98 15 104) 105 0) 98 16 105) 106 0) 98 17 106) 107 0) 108 0) 107 0 108) 109 0) 107 1 109)
def cH_41 : jH := (jhI (jhI (jhn (jhn (jhn (jhn (jhn (jhn (jhn (jhn (jhn (jhn (jhn (jhn cH_40 98) 99) 100) 101) 102) 103) 104) 105) 106) 107) 108) 109) 107 2 0) 107 3 0)
set_option maxRecDepth 20000 in
theorem jco_41 {X : jX} {dd : Nat} {Q : Option Value → jS → Prop} (K : jEx X (dd + 3) jc_6 31 [some (.ref 107)] [] (109, cR_41, cH_41) Q) : jEx X (dd + 3) jc_6 0 [some (.ref 107)] [] (107, (jcr (jup (jcr (jup (jcr (jup (jcr (jup (jcr (jup (jcr (jup (jcr (jup (jcr (jup (jcr (jcr (jup cR_40 1 10 97) 98 0) 99 0) 98 10 99) 100 0) 98 11 100) 101 0) 98 12 101) 102 0) 98 13 102) 103 0) 98 14 103) 104 0) 98 15 104) 105 0) 98 16 105) 106 0) 98 17 106) 107 0), (jhn (jhn (jhn (jhn (jhn (jhn (jhn (jhn (jhn (jhn cH_40 98) 99) 100) 101) 102) 103) 104) 105) 106) 107)) Q := by
  refine jx_next (pc := 0) (pc' := 1) rfl rfl ?_
  refine jx_obj (pc := 1) rfl (by decide) ?_
  refine jx_next (pc := 4) (pc' := 5) rfl rfl ?_
  refine jx_next (pc := 5) (pc' := 8) rfl rfl ?_
  refine jx_newa (pc := 8) (m := 108) rfl rfl (by decide) jks_108 ⟨by decide, by rw [jss_108]; decide⟩ ?_
  refine jx_putr (pc := 10) rfl (jclo_ok (by omega) jks_107) ?_
  refine jx_next (pc := 13) (pc' := 14) rfl rfl ?_
  refine jx_next (pc := 14) (pc' := 16) rfl rfl ?_
  refine jx_newa (pc := 16) (m := 109) rfl rfl (by decide) jks_109 ⟨by decide, by rw [jss_109]; decide⟩ ?_
  refine jx_putr (pc := 18) rfl (jclo_ok (by omega) jks_107) ?_
  refine jx_next (pc := 21) (pc' := 22) rfl rfl ?_
  refine jx_next (pc := 22) (pc' := 23) rfl rfl ?_
  refine jx_puti (pc := 23) rfl (jclo_ok (by omega) jks_107) ?_
  refine jx_next (pc := 26) (pc' := 27) rfl rfl ?_
  refine jx_next (pc := 27) (pc' := 28) rfl rfl ?_
  refine jx_putz (pc := 28) rfl (jclo_ok (by omega) jks_107) (Or.inl rfl) ?_
  exact K
def cR_42 : jR := cR_41
def cH_42 : jH := cH_41
set_option maxRecDepth 20000 in
theorem jco_42 {X : jX} {dd : Nat} {Q : Option Value → jS → Prop} (K : jEx X (dd + 4) jc_11 76 [some (.ref 98)] [.ref 107, .ref 98] (109, cR_42, cH_42) Q) : jEx X (dd + 4) jc_11 0 [some (.ref 98)] [] (98, (jcr (jup cR_40 1 10 97) 98 0), (jhn cH_40 98)) Q := by
  refine jx_next (pc := 0) (pc' := 1) rfl rfl ?_
  refine jx_obj (pc := 1) rfl (by decide) ?_
  refine jx_next (pc := 4) (pc' := 5) rfl rfl ?_
  refine jx_next (pc := 5) (pc' := 7) rfl rfl ?_
  refine jx_newa (pc := 7) (m := 99) rfl rfl (by decide) jks_99 ⟨by decide, by rw [jss_99]; decide⟩ ?_
  refine jx_putr (pc := 9) rfl (jclo_ok (by omega) jks_98) ?_
  refine jx_next (pc := 12) (pc' := 13) rfl rfl ?_
  refine jx_next (pc := 13) (pc' := 15) rfl rfl ?_
  refine jx_newa (pc := 15) (m := 100) rfl rfl (by decide) jks_100 ⟨by decide, by rw [jss_100]; decide⟩ ?_
  refine jx_putr (pc := 17) rfl (jclo_ok (by omega) jks_98) ?_
  refine jx_next (pc := 20) (pc' := 21) rfl rfl ?_
  refine jx_next (pc := 21) (pc' := 23) rfl rfl ?_
  refine jx_newa (pc := 23) (m := 101) rfl rfl (by decide) jks_101 ⟨by decide, by rw [jss_101]; decide⟩ ?_
  refine jx_putr (pc := 25) rfl (jclo_ok (by omega) jks_98) ?_
  refine jx_next (pc := 28) (pc' := 29) rfl rfl ?_
  refine jx_next (pc := 29) (pc' := 31) rfl rfl ?_
  refine jx_newa (pc := 31) (m := 102) rfl rfl (by decide) jks_102 ⟨by decide, by rw [jss_102]; decide⟩ ?_
  refine jx_putr (pc := 33) rfl (jclo_ok (by omega) jks_98) ?_
  refine jx_next (pc := 36) (pc' := 37) rfl rfl ?_
  refine jx_next (pc := 37) (pc' := 39) rfl rfl ?_
  refine jx_newa (pc := 39) (m := 103) rfl rfl (by decide) jks_103 ⟨by decide, by rw [jss_103]; decide⟩ ?_
  refine jx_putr (pc := 41) rfl (jclo_ok (by omega) jks_98) ?_
  refine jx_next (pc := 44) (pc' := 45) rfl rfl ?_
  refine jx_next (pc := 45) (pc' := 47) rfl rfl ?_
  refine jx_newa (pc := 47) (m := 104) rfl rfl (by decide) jks_104 ⟨by decide, by rw [jss_104]; decide⟩ ?_
  refine jx_putr (pc := 49) rfl (jclo_ok (by omega) jks_98) ?_
  refine jx_next (pc := 52) (pc' := 53) rfl rfl ?_
  refine jx_next (pc := 53) (pc' := 55) rfl rfl ?_
  refine jx_newa (pc := 55) (m := 105) rfl rfl (by decide) jks_105 ⟨by decide, by rw [jss_105]; decide⟩ ?_
  refine jx_putr (pc := 57) rfl (jclo_ok (by omega) jks_98) ?_
  refine jx_next (pc := 60) (pc' := 61) rfl rfl ?_
  refine jx_next (pc := 61) (pc' := 63) rfl rfl ?_
  refine jx_newa (pc := 63) (m := 106) rfl rfl (by decide) jks_106 ⟨by decide, by rw [jss_106]; decide⟩ ?_
  refine jx_putr (pc := 65) rfl (jclo_ok (by omega) jks_98) ?_
  refine jx_next (pc := 68) (pc' := 69) rfl rfl ?_
  refine jx_newo (pc := 69) (m := 107) rfl rfl (by decide) jks_107 ?_
  refine jx_next (pc := 72) (pc' := 73) rfl rfl ?_
  refine jx_callp (pc := 73) (o := 107) (rest := [.ref 107, .ref 98]) rfl ⟨by decide, by decide⟩ rfl (jclo_ok (by omega) jks_107) (Nat.le_of_ble_eq_true rfl) ?_
  refine jCa_of (es := jc_6) (pl := [some (.ref 107)]) (M := jm_6) rfl rfl rfl rfl ?_
  refine jco_41 ?_
  refine jx_ret (pc := 31) rfl rfl ?_
  exact K
def cR_43 : jR := (jup (jup cR_42 98 18 107) 1 11 98)
def cH_43 : jH := (jhI (jhI (jhI (jhI cH_42 1 12 0) 1 13 1) 1 14 0) 1 15 (-1))
set_option maxRecDepth 20000 in
theorem jco_43 {X : jX} {dd : Nat} {Q : Option Value → jS → Prop} (K : jEx X (dd + 5) jc_0 177 [some (.ref 1)] [] (109, cR_43, cH_43) Q) : jEx X (dd + 5) jc_0 143 [some (.ref 1)] [.ref 97, .ref 1] (97, cR_40, cH_40) Q := by
  refine jx_putr (pc := 143) rfl (jclo_ok (by omega) jks_1) ?_
  refine jx_next (pc := 146) (pc' := 147) rfl rfl ?_
  refine jx_newo (pc := 147) (m := 98) rfl rfl (by decide) jks_98 ?_
  refine jx_next (pc := 150) (pc' := 151) rfl rfl ?_
  refine jx_callp (pc := 151) (o := 98) (rest := [.ref 98, .ref 1]) rfl ⟨by decide, by decide⟩ rfl (jclo_ok (by omega) jks_98) (Nat.le_of_ble_eq_true rfl) ?_
  refine jCa_of (es := jc_11) (pl := [some (.ref 98)]) (M := jm_11) rfl rfl rfl rfl ?_
  refine jco_42 ?_
  refine jx_putr (pc := 76) rfl (jclo_ok (by omega) jks_98) ?_
  refine jx_ret (pc := 79) rfl rfl ?_
  refine jx_putr (pc := 154) rfl (jclo_ok (by omega) jks_1) ?_
  refine jx_next (pc := 157) (pc' := 158) rfl rfl ?_
  refine jx_next (pc := 158) (pc' := 159) rfl rfl ?_
  refine jx_putz (pc := 159) rfl (jclo_ok (by omega) jks_1) (Or.inl rfl) ?_
  refine jx_next (pc := 162) (pc' := 163) rfl rfl ?_
  refine jx_next (pc := 163) (pc' := 164) rfl rfl ?_
  refine jx_puti (pc := 164) rfl (jclo_ok (by omega) jks_1) ?_
  refine jx_next (pc := 167) (pc' := 168) rfl rfl ?_
  refine jx_next (pc := 168) (pc' := 169) rfl rfl ?_
  refine jx_puti (pc := 169) rfl (jclo_ok (by omega) jks_1) ?_
  refine jx_next (pc := 172) (pc' := 173) rfl rfl ?_
  refine jx_next (pc := 173) (pc' := 174) rfl rfl ?_
  refine jx_puti (pc := 174) rfl (jclo_ok (by omega) jks_1) ?_
  exact K
def cR_44 : jR := (jcr (jup (jcr (jup (jcr (jup (jcr (jcr cR_43 110 0) 111 0) 110 0 111) 112 0) 110 9 112) 113 0) 110 10 113) 114 0)
def cH_44 : jH := (jhn (jhI (jhI (jhI (jhI (jhI (jhn (jhn (jhI (jhn (jhn cH_43 110) 111) 110 8 (-1)) 112) 113) 113 0 115) 113 1 101) 113 2 97) 113 3 116) 113 4 115) 114)
set_option maxRecDepth 20000 in
theorem jco_44 {X : jX} {dd : Nat} {Q : Option Value → jS → Prop} (K : jEx X (dd + 5) jc_229 62 [some (.ref 110)] [.ref 114, .ref 110] (114, cR_44, cH_44) Q) : jEx X (dd + 5) jc_229 0 [some (.ref 110)] [] (110, (jcr cR_43 110 0), (jhn cH_43 110)) Q := by
  refine jx_next (pc := 0) (pc' := 1) rfl rfl ?_
  refine jx_obj (pc := 1) rfl (by decide) ?_
  refine jx_next (pc := 4) (pc' := 5) rfl rfl ?_
  refine jx_next (pc := 5) (pc' := 8) rfl rfl ?_
  refine jx_newa (pc := 8) (m := 111) rfl rfl (by decide) jks_111 ⟨by decide, by rw [jss_111]; decide⟩ ?_
  refine jx_putr (pc := 10) rfl (jclo_ok (by omega) jks_110) ?_
  refine jx_next (pc := 13) (pc' := 14) rfl rfl ?_
  refine jx_next (pc := 14) (pc' := 15) rfl rfl ?_
  refine jx_puti (pc := 15) rfl (jclo_ok (by omega) jks_110) ?_
  refine jx_next (pc := 18) (pc' := 19) rfl rfl ?_
  refine jx_next (pc := 19) (pc' := 21) rfl rfl ?_
  refine jx_newa (pc := 21) (m := 112) rfl rfl (by decide) jks_112 ⟨by decide, by rw [jss_112]; decide⟩ ?_
  refine jx_putr (pc := 23) rfl (jclo_ok (by omega) jks_110) ?_
  refine jx_next (pc := 26) (pc' := 27) rfl rfl ?_
  refine jx_next (pc := 27) (pc' := 28) rfl rfl ?_
  refine jx_newa (pc := 28) (m := 113) rfl rfl (by decide) jks_113 ⟨by decide, by rw [jss_113]; decide⟩ ?_
  refine jx_next (pc := 30) (pc' := 31) rfl rfl ?_
  refine jx_next (pc := 31) (pc' := 32) rfl rfl ?_
  refine jx_next (pc := 32) (pc' := 34) rfl rfl ?_
  refine jx_castv (pc := 34) (j := 0) (v := 115) rfl (jclo_ok (by omega) jks_113) (by decide) jss_113 (by decide) (by decide) ?_
  refine jx_next (pc := 35) (pc' := 36) rfl rfl ?_
  refine jx_next (pc := 36) (pc' := 37) rfl rfl ?_
  refine jx_next (pc := 37) (pc' := 39) rfl rfl ?_
  refine jx_castv (pc := 39) (j := 1) (v := 101) rfl (jclo_ok (by omega) jks_113) (by decide) jss_113 (by decide) (by decide) ?_
  refine jx_next (pc := 40) (pc' := 41) rfl rfl ?_
  refine jx_next (pc := 41) (pc' := 42) rfl rfl ?_
  refine jx_next (pc := 42) (pc' := 44) rfl rfl ?_
  refine jx_castv (pc := 44) (j := 2) (v := 97) rfl (jclo_ok (by omega) jks_113) (by decide) jss_113 (by decide) (by decide) ?_
  refine jx_next (pc := 45) (pc' := 46) rfl rfl ?_
  refine jx_next (pc := 46) (pc' := 47) rfl rfl ?_
  refine jx_next (pc := 47) (pc' := 49) rfl rfl ?_
  refine jx_castv (pc := 49) (j := 3) (v := 116) rfl (jclo_ok (by omega) jks_113) (by decide) jss_113 (by decide) (by decide) ?_
  refine jx_next (pc := 50) (pc' := 51) rfl rfl ?_
  refine jx_next (pc := 51) (pc' := 52) rfl rfl ?_
  refine jx_next (pc := 52) (pc' := 54) rfl rfl ?_
  refine jx_castv (pc := 54) (j := 4) (v := 115) rfl (jclo_ok (by omega) jks_113) (by decide) jss_113 (by decide) (by decide) ?_
  refine jx_putr (pc := 55) rfl (jclo_ok (by omega) jks_110) ?_
  refine jx_next (pc := 58) (pc' := 59) rfl rfl ?_
  refine jx_next (pc := 59) (pc' := 60) rfl rfl ?_
  refine jx_newa (pc := 60) (m := 114) rfl rfl (by decide) jks_114 ⟨by decide, by rw [jss_114]; decide⟩ ?_
  exact K
def cR_45 : jR := (jcr (jup cR_44 110 11 114) 115 0)
def cH_45 : jH := (jhI (jhI (jhI (jhI (jhn (jhI (jhI (jhI (jhI (jhI cH_44 114 0 98) 114 1 101) 114 2 110) 114 3 99) 114 4 104) 115) 115 0 112) 115 1 108) 115 2 97) 115 3 116)
set_option maxRecDepth 20000 in
theorem jco_45 {X : jX} {dd : Nat} {Q : Option Value → jS → Prop} (K : jEx X (dd + 5) jc_229 114 [some (.ref 110)] [.ref 115, .ref 110] (115, cR_45, cH_45) Q) : jEx X (dd + 5) jc_229 62 [some (.ref 110)] [.ref 114, .ref 110] (114, cR_44, cH_44) Q := by
  refine jx_next (pc := 62) (pc' := 63) rfl rfl ?_
  refine jx_next (pc := 63) (pc' := 64) rfl rfl ?_
  refine jx_next (pc := 64) (pc' := 66) rfl rfl ?_
  refine jx_castv (pc := 66) (j := 0) (v := 98) rfl (jclo_ok (by omega) jks_114) (by decide) jss_114 (by decide) (by decide) ?_
  refine jx_next (pc := 67) (pc' := 68) rfl rfl ?_
  refine jx_next (pc := 68) (pc' := 69) rfl rfl ?_
  refine jx_next (pc := 69) (pc' := 71) rfl rfl ?_
  refine jx_castv (pc := 71) (j := 1) (v := 101) rfl (jclo_ok (by omega) jks_114) (by decide) jss_114 (by decide) (by decide) ?_
  refine jx_next (pc := 72) (pc' := 73) rfl rfl ?_
  refine jx_next (pc := 73) (pc' := 74) rfl rfl ?_
  refine jx_next (pc := 74) (pc' := 76) rfl rfl ?_
  refine jx_castv (pc := 76) (j := 2) (v := 110) rfl (jclo_ok (by omega) jks_114) (by decide) jss_114 (by decide) (by decide) ?_
  refine jx_next (pc := 77) (pc' := 78) rfl rfl ?_
  refine jx_next (pc := 78) (pc' := 79) rfl rfl ?_
  refine jx_next (pc := 79) (pc' := 81) rfl rfl ?_
  refine jx_castv (pc := 81) (j := 3) (v := 99) rfl (jclo_ok (by omega) jks_114) (by decide) jss_114 (by decide) (by decide) ?_
  refine jx_next (pc := 82) (pc' := 83) rfl rfl ?_
  refine jx_next (pc := 83) (pc' := 84) rfl rfl ?_
  refine jx_next (pc := 84) (pc' := 86) rfl rfl ?_
  refine jx_castv (pc := 86) (j := 4) (v := 104) rfl (jclo_ok (by omega) jks_114) (by decide) jss_114 (by decide) (by decide) ?_
  refine jx_putr (pc := 87) rfl (jclo_ok (by omega) jks_110) ?_
  refine jx_next (pc := 90) (pc' := 91) rfl rfl ?_
  refine jx_next (pc := 91) (pc' := 92) rfl rfl ?_
  refine jx_newa (pc := 92) (m := 115) rfl rfl (by decide) jks_115 ⟨by decide, by rw [jss_115]; decide⟩ ?_
  refine jx_next (pc := 94) (pc' := 95) rfl rfl ?_
  refine jx_next (pc := 95) (pc' := 96) rfl rfl ?_
  refine jx_next (pc := 96) (pc' := 98) rfl rfl ?_
  refine jx_castv (pc := 98) (j := 0) (v := 112) rfl (jclo_ok (by omega) jks_115) (by decide) jss_115 (by decide) (by decide) ?_
  refine jx_next (pc := 99) (pc' := 100) rfl rfl ?_
  refine jx_next (pc := 100) (pc' := 101) rfl rfl ?_
  refine jx_next (pc := 101) (pc' := 103) rfl rfl ?_
  refine jx_castv (pc := 103) (j := 1) (v := 108) rfl (jclo_ok (by omega) jks_115) (by decide) jss_115 (by decide) (by decide) ?_
  refine jx_next (pc := 104) (pc' := 105) rfl rfl ?_
  refine jx_next (pc := 105) (pc' := 106) rfl rfl ?_
  refine jx_next (pc := 106) (pc' := 108) rfl rfl ?_
  refine jx_castv (pc := 108) (j := 2) (v := 97) rfl (jclo_ok (by omega) jks_115) (by decide) jss_115 (by decide) (by decide) ?_
  refine jx_next (pc := 109) (pc' := 110) rfl rfl ?_
  refine jx_next (pc := 110) (pc' := 111) rfl rfl ?_
  refine jx_next (pc := 111) (pc' := 113) rfl rfl ?_
  refine jx_castv (pc := 113) (j := 3) (v := 116) rfl (jclo_ok (by omega) jks_115) (by decide) jss_115 (by decide) (by decide) ?_
  exact K
def cR_46 : jR := (jcr (jup (jcr (jup cR_45 110 12 115) 116 0) 110 13 116) 117 0)
def cH_46 : jH := (jhI (jhI (jhI (jhn (jhI (jhI (jhI (jhI (jhn (jhI cH_45 115 4 101) 116) 116 0 108) 116 1 97) 116 2 99) 116 3 107) 117) 117 0 103) 117 1 117) 117 2 101)
set_option maxRecDepth 20000 in
theorem jco_46 {X : jX} {dd : Nat} {Q : Option Value → jS → Prop} (K : jEx X (dd + 5) jc_229 168 [some (.ref 110)] [.ref 117, .ref 110] (117, cR_46, cH_46) Q) : jEx X (dd + 5) jc_229 114 [some (.ref 110)] [.ref 115, .ref 110] (115, cR_45, cH_45) Q := by
  refine jx_next (pc := 114) (pc' := 115) rfl rfl ?_
  refine jx_next (pc := 115) (pc' := 116) rfl rfl ?_
  refine jx_next (pc := 116) (pc' := 118) rfl rfl ?_
  refine jx_castv (pc := 118) (j := 4) (v := 101) rfl (jclo_ok (by omega) jks_115) (by decide) jss_115 (by decide) (by decide) ?_
  refine jx_putr (pc := 119) rfl (jclo_ok (by omega) jks_110) ?_
  refine jx_next (pc := 122) (pc' := 123) rfl rfl ?_
  refine jx_next (pc := 123) (pc' := 124) rfl rfl ?_
  refine jx_newa (pc := 124) (m := 116) rfl rfl (by decide) jks_116 ⟨by decide, by rw [jss_116]; decide⟩ ?_
  refine jx_next (pc := 126) (pc' := 127) rfl rfl ?_
  refine jx_next (pc := 127) (pc' := 128) rfl rfl ?_
  refine jx_next (pc := 128) (pc' := 130) rfl rfl ?_
  refine jx_castv (pc := 130) (j := 0) (v := 108) rfl (jclo_ok (by omega) jks_116) (by decide) jss_116 (by decide) (by decide) ?_
  refine jx_next (pc := 131) (pc' := 132) rfl rfl ?_
  refine jx_next (pc := 132) (pc' := 133) rfl rfl ?_
  refine jx_next (pc := 133) (pc' := 135) rfl rfl ?_
  refine jx_castv (pc := 135) (j := 1) (v := 97) rfl (jclo_ok (by omega) jks_116) (by decide) jss_116 (by decide) (by decide) ?_
  refine jx_next (pc := 136) (pc' := 137) rfl rfl ?_
  refine jx_next (pc := 137) (pc' := 138) rfl rfl ?_
  refine jx_next (pc := 138) (pc' := 140) rfl rfl ?_
  refine jx_castv (pc := 140) (j := 2) (v := 99) rfl (jclo_ok (by omega) jks_116) (by decide) jss_116 (by decide) (by decide) ?_
  refine jx_next (pc := 141) (pc' := 142) rfl rfl ?_
  refine jx_next (pc := 142) (pc' := 143) rfl rfl ?_
  refine jx_next (pc := 143) (pc' := 145) rfl rfl ?_
  refine jx_castv (pc := 145) (j := 3) (v := 107) rfl (jclo_ok (by omega) jks_116) (by decide) jss_116 (by decide) (by decide) ?_
  refine jx_putr (pc := 146) rfl (jclo_ok (by omega) jks_110) ?_
  refine jx_next (pc := 149) (pc' := 150) rfl rfl ?_
  refine jx_next (pc := 150) (pc' := 151) rfl rfl ?_
  refine jx_newa (pc := 151) (m := 117) rfl rfl (by decide) jks_117 ⟨by decide, by rw [jss_117]; decide⟩ ?_
  refine jx_next (pc := 153) (pc' := 154) rfl rfl ?_
  refine jx_next (pc := 154) (pc' := 155) rfl rfl ?_
  refine jx_next (pc := 155) (pc' := 157) rfl rfl ?_
  refine jx_castv (pc := 157) (j := 0) (v := 103) rfl (jclo_ok (by omega) jks_117) (by decide) jss_117 (by decide) (by decide) ?_
  refine jx_next (pc := 158) (pc' := 159) rfl rfl ?_
  refine jx_next (pc := 159) (pc' := 160) rfl rfl ?_
  refine jx_next (pc := 160) (pc' := 162) rfl rfl ?_
  refine jx_castv (pc := 162) (j := 1) (v := 117) rfl (jclo_ok (by omega) jks_117) (by decide) jss_117 (by decide) (by decide) ?_
  refine jx_next (pc := 163) (pc' := 164) rfl rfl ?_
  refine jx_next (pc := 164) (pc' := 165) rfl rfl ?_
  refine jx_next (pc := 165) (pc' := 167) rfl rfl ?_
  refine jx_castv (pc := 167) (j := 2) (v := 101) rfl (jclo_ok (by omega) jks_117) (by decide) jss_117 (by decide) (by decide) ?_
  exact K
def cR_47 : jR := (jcr (jup (jcr (jup cR_46 110 14 117) 118 0) 110 15 118) 119 0)
def cH_47 : jH := (jhI (jhn (jhI (jhI (jhI (jhI (jhI (jhn (jhI (jhI cH_46 117 3 115) 117 4 116) 118) 118 0 99) 118 1 111) 118 2 109) 118 3 101) 118 4 115) 119) 119 0 106)
set_option maxRecDepth 20000 in
theorem jco_47 {X : jX} {dd : Nat} {Q : Option Value → jS → Prop} (K : jEx X (dd + 5) jc_229 222 [some (.ref 110)] [.ref 119, .ref 110] (119, cR_47, cH_47) Q) : jEx X (dd + 5) jc_229 168 [some (.ref 110)] [.ref 117, .ref 110] (117, cR_46, cH_46) Q := by
  refine jx_next (pc := 168) (pc' := 169) rfl rfl ?_
  refine jx_next (pc := 169) (pc' := 170) rfl rfl ?_
  refine jx_next (pc := 170) (pc' := 172) rfl rfl ?_
  refine jx_castv (pc := 172) (j := 3) (v := 115) rfl (jclo_ok (by omega) jks_117) (by decide) jss_117 (by decide) (by decide) ?_
  refine jx_next (pc := 173) (pc' := 174) rfl rfl ?_
  refine jx_next (pc := 174) (pc' := 175) rfl rfl ?_
  refine jx_next (pc := 175) (pc' := 177) rfl rfl ?_
  refine jx_castv (pc := 177) (j := 4) (v := 116) rfl (jclo_ok (by omega) jks_117) (by decide) jss_117 (by decide) (by decide) ?_
  refine jx_putr (pc := 178) rfl (jclo_ok (by omega) jks_110) ?_
  refine jx_next (pc := 181) (pc' := 182) rfl rfl ?_
  refine jx_next (pc := 182) (pc' := 183) rfl rfl ?_
  refine jx_newa (pc := 183) (m := 118) rfl rfl (by decide) jks_118 ⟨by decide, by rw [jss_118]; decide⟩ ?_
  refine jx_next (pc := 185) (pc' := 186) rfl rfl ?_
  refine jx_next (pc := 186) (pc' := 187) rfl rfl ?_
  refine jx_next (pc := 187) (pc' := 189) rfl rfl ?_
  refine jx_castv (pc := 189) (j := 0) (v := 99) rfl (jclo_ok (by omega) jks_118) (by decide) jss_118 (by decide) (by decide) ?_
  refine jx_next (pc := 190) (pc' := 191) rfl rfl ?_
  refine jx_next (pc := 191) (pc' := 192) rfl rfl ?_
  refine jx_next (pc := 192) (pc' := 194) rfl rfl ?_
  refine jx_castv (pc := 194) (j := 1) (v := 111) rfl (jclo_ok (by omega) jks_118) (by decide) jss_118 (by decide) (by decide) ?_
  refine jx_next (pc := 195) (pc' := 196) rfl rfl ?_
  refine jx_next (pc := 196) (pc' := 197) rfl rfl ?_
  refine jx_next (pc := 197) (pc' := 199) rfl rfl ?_
  refine jx_castv (pc := 199) (j := 2) (v := 109) rfl (jclo_ok (by omega) jks_118) (by decide) jss_118 (by decide) (by decide) ?_
  refine jx_next (pc := 200) (pc' := 201) rfl rfl ?_
  refine jx_next (pc := 201) (pc' := 202) rfl rfl ?_
  refine jx_next (pc := 202) (pc' := 204) rfl rfl ?_
  refine jx_castv (pc := 204) (j := 3) (v := 101) rfl (jclo_ok (by omega) jks_118) (by decide) jss_118 (by decide) (by decide) ?_
  refine jx_next (pc := 205) (pc' := 206) rfl rfl ?_
  refine jx_next (pc := 206) (pc' := 207) rfl rfl ?_
  refine jx_next (pc := 207) (pc' := 209) rfl rfl ?_
  refine jx_castv (pc := 209) (j := 4) (v := 115) rfl (jclo_ok (by omega) jks_118) (by decide) jss_118 (by decide) (by decide) ?_
  refine jx_putr (pc := 210) rfl (jclo_ok (by omega) jks_110) ?_
  refine jx_next (pc := 213) (pc' := 214) rfl rfl ?_
  refine jx_next (pc := 214) (pc' := 215) rfl rfl ?_
  refine jx_newa (pc := 215) (m := 119) rfl rfl (by decide) jks_119 ⟨by decide, by rw [jss_119]; decide⟩ ?_
  refine jx_next (pc := 217) (pc' := 218) rfl rfl ?_
  refine jx_next (pc := 218) (pc' := 219) rfl rfl ?_
  refine jx_next (pc := 219) (pc' := 221) rfl rfl ?_
  refine jx_castv (pc := 221) (j := 0) (v := 106) rfl (jclo_ok (by omega) jks_119) (by decide) jss_119 (by decide) (by decide) ?_
  exact K
def cR_48 : jR := (jcr (jup (jcr (jup cR_47 110 16 119) 120 0) 110 17 120) 121 0)
def cH_48 : jH := (jhI (jhI (jhn (jhI (jhI (jhI (jhI (jhn (jhI (jhI cH_47 119 1 111) 119 2 121) 120) 120 0 119) 120 1 105) 120 2 116) 120 3 104) 121) 121 0 115) 121 1 108)
set_option maxRecDepth 20000 in
theorem jco_48 {X : jX} {dd : Nat} {Q : Option Value → jS → Prop} (K : jEx X (dd + 5) jc_229 277 [some (.ref 110)] [.ref 121, .ref 110] (121, cR_48, cH_48) Q) : jEx X (dd + 5) jc_229 222 [some (.ref 110)] [.ref 119, .ref 110] (119, cR_47, cH_47) Q := by
  refine jx_next (pc := 222) (pc' := 223) rfl rfl ?_
  refine jx_next (pc := 223) (pc' := 224) rfl rfl ?_
  refine jx_next (pc := 224) (pc' := 226) rfl rfl ?_
  refine jx_castv (pc := 226) (j := 1) (v := 111) rfl (jclo_ok (by omega) jks_119) (by decide) jss_119 (by decide) (by decide) ?_
  refine jx_next (pc := 227) (pc' := 228) rfl rfl ?_
  refine jx_next (pc := 228) (pc' := 229) rfl rfl ?_
  refine jx_next (pc := 229) (pc' := 231) rfl rfl ?_
  refine jx_castv (pc := 231) (j := 2) (v := 121) rfl (jclo_ok (by omega) jks_119) (by decide) jss_119 (by decide) (by decide) ?_
  refine jx_putr (pc := 232) rfl (jclo_ok (by omega) jks_110) ?_
  refine jx_next (pc := 235) (pc' := 236) rfl rfl ?_
  refine jx_next (pc := 236) (pc' := 237) rfl rfl ?_
  refine jx_newa (pc := 237) (m := 120) rfl rfl (by decide) jks_120 ⟨by decide, by rw [jss_120]; decide⟩ ?_
  refine jx_next (pc := 239) (pc' := 240) rfl rfl ?_
  refine jx_next (pc := 240) (pc' := 241) rfl rfl ?_
  refine jx_next (pc := 241) (pc' := 243) rfl rfl ?_
  refine jx_castv (pc := 243) (j := 0) (v := 119) rfl (jclo_ok (by omega) jks_120) (by decide) jss_120 (by decide) (by decide) ?_
  refine jx_next (pc := 244) (pc' := 245) rfl rfl ?_
  refine jx_next (pc := 245) (pc' := 246) rfl rfl ?_
  refine jx_next (pc := 246) (pc' := 248) rfl rfl ?_
  refine jx_castv (pc := 248) (j := 1) (v := 105) rfl (jclo_ok (by omega) jks_120) (by decide) jss_120 (by decide) (by decide) ?_
  refine jx_next (pc := 249) (pc' := 250) rfl rfl ?_
  refine jx_next (pc := 250) (pc' := 251) rfl rfl ?_
  refine jx_next (pc := 251) (pc' := 253) rfl rfl ?_
  refine jx_castv (pc := 253) (j := 2) (v := 116) rfl (jclo_ok (by omega) jks_120) (by decide) jss_120 (by decide) (by decide) ?_
  refine jx_next (pc := 254) (pc' := 255) rfl rfl ?_
  refine jx_next (pc := 255) (pc' := 256) rfl rfl ?_
  refine jx_next (pc := 256) (pc' := 258) rfl rfl ?_
  refine jx_castv (pc := 258) (j := 3) (v := 104) rfl (jclo_ok (by omega) jks_120) (by decide) jss_120 (by decide) (by decide) ?_
  refine jx_putr (pc := 259) rfl (jclo_ok (by omega) jks_110) ?_
  refine jx_next (pc := 262) (pc' := 263) rfl rfl ?_
  refine jx_next (pc := 263) (pc' := 265) rfl rfl ?_
  refine jx_newa (pc := 265) (m := 121) rfl rfl (by decide) jks_121 ⟨by decide, by rw [jss_121]; decide⟩ ?_
  refine jx_next (pc := 267) (pc' := 268) rfl rfl ?_
  refine jx_next (pc := 268) (pc' := 269) rfl rfl ?_
  refine jx_next (pc := 269) (pc' := 271) rfl rfl ?_
  refine jx_castv (pc := 271) (j := 0) (v := 115) rfl (jclo_ok (by omega) jks_121) (by decide) jss_121 (by decide) (by decide) ?_
  refine jx_next (pc := 272) (pc' := 273) rfl rfl ?_
  refine jx_next (pc := 273) (pc' := 274) rfl rfl ?_
  refine jx_next (pc := 274) (pc' := 276) rfl rfl ?_
  refine jx_castv (pc := 276) (j := 1) (v := 108) rfl (jclo_ok (by omega) jks_121) (by decide) jss_121 (by decide) (by decide) ?_
  exact K
def cR_49 : jR := (jcr (jup cR_48 110 18 121) 122 0)
def cH_49 : jH := (jhI (jhI (jhI (jhI (jhI (jhn (jhI (jhI (jhI (jhI cH_48 121 2 105) 121 3 103) 121 4 104) 121 5 116) 122) 122 0 112) 122 1 117) 122 2 108) 122 3 108) 122 4 115)
set_option maxRecDepth 20000 in
theorem jco_49 {X : jX} {dd : Nat} {Q : Option Value → jS → Prop} (K : jEx X (dd + 5) jc_229 329 [some (.ref 110)] [.ref 122, .ref 110] (122, cR_49, cH_49) Q) : jEx X (dd + 5) jc_229 277 [some (.ref 110)] [.ref 121, .ref 110] (121, cR_48, cH_48) Q := by
  refine jx_next (pc := 277) (pc' := 278) rfl rfl ?_
  refine jx_next (pc := 278) (pc' := 279) rfl rfl ?_
  refine jx_next (pc := 279) (pc' := 281) rfl rfl ?_
  refine jx_castv (pc := 281) (j := 2) (v := 105) rfl (jclo_ok (by omega) jks_121) (by decide) jss_121 (by decide) (by decide) ?_
  refine jx_next (pc := 282) (pc' := 283) rfl rfl ?_
  refine jx_next (pc := 283) (pc' := 284) rfl rfl ?_
  refine jx_next (pc := 284) (pc' := 286) rfl rfl ?_
  refine jx_castv (pc := 286) (j := 3) (v := 103) rfl (jclo_ok (by omega) jks_121) (by decide) jss_121 (by decide) (by decide) ?_
  refine jx_next (pc := 287) (pc' := 288) rfl rfl ?_
  refine jx_next (pc := 288) (pc' := 289) rfl rfl ?_
  refine jx_next (pc := 289) (pc' := 291) rfl rfl ?_
  refine jx_castv (pc := 291) (j := 4) (v := 104) rfl (jclo_ok (by omega) jks_121) (by decide) jss_121 (by decide) (by decide) ?_
  refine jx_next (pc := 292) (pc' := 293) rfl rfl ?_
  refine jx_next (pc := 293) (pc' := 294) rfl rfl ?_
  refine jx_next (pc := 294) (pc' := 296) rfl rfl ?_
  refine jx_castv (pc := 296) (j := 5) (v := 116) rfl (jclo_ok (by omega) jks_121) (by decide) jss_121 (by decide) (by decide) ?_
  refine jx_putr (pc := 297) rfl (jclo_ok (by omega) jks_110) ?_
  refine jx_next (pc := 300) (pc' := 301) rfl rfl ?_
  refine jx_next (pc := 301) (pc' := 302) rfl rfl ?_
  refine jx_newa (pc := 302) (m := 122) rfl rfl (by decide) jks_122 ⟨by decide, by rw [jss_122]; decide⟩ ?_
  refine jx_next (pc := 304) (pc' := 305) rfl rfl ?_
  refine jx_next (pc := 305) (pc' := 306) rfl rfl ?_
  refine jx_next (pc := 306) (pc' := 308) rfl rfl ?_
  refine jx_castv (pc := 308) (j := 0) (v := 112) rfl (jclo_ok (by omega) jks_122) (by decide) jss_122 (by decide) (by decide) ?_
  refine jx_next (pc := 309) (pc' := 310) rfl rfl ?_
  refine jx_next (pc := 310) (pc' := 311) rfl rfl ?_
  refine jx_next (pc := 311) (pc' := 313) rfl rfl ?_
  refine jx_castv (pc := 313) (j := 1) (v := 117) rfl (jclo_ok (by omega) jks_122) (by decide) jss_122 (by decide) (by decide) ?_
  refine jx_next (pc := 314) (pc' := 315) rfl rfl ?_
  refine jx_next (pc := 315) (pc' := 316) rfl rfl ?_
  refine jx_next (pc := 316) (pc' := 318) rfl rfl ?_
  refine jx_castv (pc := 318) (j := 2) (v := 108) rfl (jclo_ok (by omega) jks_122) (by decide) jss_122 (by decide) (by decide) ?_
  refine jx_next (pc := 319) (pc' := 320) rfl rfl ?_
  refine jx_next (pc := 320) (pc' := 321) rfl rfl ?_
  refine jx_next (pc := 321) (pc' := 323) rfl rfl ?_
  refine jx_castv (pc := 323) (j := 3) (v := 108) rfl (jclo_ok (by omega) jks_122) (by decide) jss_122 (by decide) (by decide) ?_
  refine jx_next (pc := 324) (pc' := 325) rfl rfl ?_
  refine jx_next (pc := 325) (pc' := 326) rfl rfl ?_
  refine jx_next (pc := 326) (pc' := 328) rfl rfl ?_
  refine jx_castv (pc := 328) (j := 4) (v := 115) rfl (jclo_ok (by omega) jks_122) (by decide) jss_122 (by decide) (by decide) ?_
  exact K
def cR_50 : jR := (jcr (jup (jcr (jup cR_49 110 19 122) 123 0) 110 20 123) 124 0)
def cH_50 : jH := (jhI (jhI (jhI (jhn (jhI (jhI (jhI (jhI (jhI (jhn cH_49 123) 123 0 104) 123 1 101) 123 2 97) 123 3 114) 123 4 115) 124) 124 0 108) 124 1 97) 124 2 116)
set_option maxRecDepth 20000 in
theorem jco_50 {X : jX} {dd : Nat} {Q : Option Value → jS → Prop} (K : jEx X (dd + 5) jc_229 383 [some (.ref 110)] [.ref 124, .ref 110] (124, cR_50, cH_50) Q) : jEx X (dd + 5) jc_229 329 [some (.ref 110)] [.ref 122, .ref 110] (122, cR_49, cH_49) Q := by
  refine jx_putr (pc := 329) rfl (jclo_ok (by omega) jks_110) ?_
  refine jx_next (pc := 332) (pc' := 333) rfl rfl ?_
  refine jx_next (pc := 333) (pc' := 334) rfl rfl ?_
  refine jx_newa (pc := 334) (m := 123) rfl rfl (by decide) jks_123 ⟨by decide, by rw [jss_123]; decide⟩ ?_
  refine jx_next (pc := 336) (pc' := 337) rfl rfl ?_
  refine jx_next (pc := 337) (pc' := 338) rfl rfl ?_
  refine jx_next (pc := 338) (pc' := 340) rfl rfl ?_
  refine jx_castv (pc := 340) (j := 0) (v := 104) rfl (jclo_ok (by omega) jks_123) (by decide) jss_123 (by decide) (by decide) ?_
  refine jx_next (pc := 341) (pc' := 342) rfl rfl ?_
  refine jx_next (pc := 342) (pc' := 343) rfl rfl ?_
  refine jx_next (pc := 343) (pc' := 345) rfl rfl ?_
  refine jx_castv (pc := 345) (j := 1) (v := 101) rfl (jclo_ok (by omega) jks_123) (by decide) jss_123 (by decide) (by decide) ?_
  refine jx_next (pc := 346) (pc' := 347) rfl rfl ?_
  refine jx_next (pc := 347) (pc' := 348) rfl rfl ?_
  refine jx_next (pc := 348) (pc' := 350) rfl rfl ?_
  refine jx_castv (pc := 350) (j := 2) (v := 97) rfl (jclo_ok (by omega) jks_123) (by decide) jss_123 (by decide) (by decide) ?_
  refine jx_next (pc := 351) (pc' := 352) rfl rfl ?_
  refine jx_next (pc := 352) (pc' := 353) rfl rfl ?_
  refine jx_next (pc := 353) (pc' := 355) rfl rfl ?_
  refine jx_castv (pc := 355) (j := 3) (v := 114) rfl (jclo_ok (by omega) jks_123) (by decide) jss_123 (by decide) (by decide) ?_
  refine jx_next (pc := 356) (pc' := 357) rfl rfl ?_
  refine jx_next (pc := 357) (pc' := 358) rfl rfl ?_
  refine jx_next (pc := 358) (pc' := 360) rfl rfl ?_
  refine jx_castv (pc := 360) (j := 4) (v := 115) rfl (jclo_ok (by omega) jks_123) (by decide) jss_123 (by decide) (by decide) ?_
  refine jx_putr (pc := 361) rfl (jclo_ok (by omega) jks_110) ?_
  refine jx_next (pc := 364) (pc' := 365) rfl rfl ?_
  refine jx_next (pc := 365) (pc' := 366) rfl rfl ?_
  refine jx_newa (pc := 366) (m := 124) rfl rfl (by decide) jks_124 ⟨by decide, by rw [jss_124]; decide⟩ ?_
  refine jx_next (pc := 368) (pc' := 369) rfl rfl ?_
  refine jx_next (pc := 369) (pc' := 370) rfl rfl ?_
  refine jx_next (pc := 370) (pc' := 372) rfl rfl ?_
  refine jx_castv (pc := 372) (j := 0) (v := 108) rfl (jclo_ok (by omega) jks_124) (by decide) jss_124 (by decide) (by decide) ?_
  refine jx_next (pc := 373) (pc' := 374) rfl rfl ?_
  refine jx_next (pc := 374) (pc' := 375) rfl rfl ?_
  refine jx_next (pc := 375) (pc' := 377) rfl rfl ?_
  refine jx_castv (pc := 377) (j := 1) (v := 97) rfl (jclo_ok (by omega) jks_124) (by decide) jss_124 (by decide) (by decide) ?_
  refine jx_next (pc := 378) (pc' := 379) rfl rfl ?_
  refine jx_next (pc := 379) (pc' := 380) rfl rfl ?_
  refine jx_next (pc := 380) (pc' := 382) rfl rfl ?_
  refine jx_castv (pc := 382) (j := 2) (v := 116) rfl (jclo_ok (by omega) jks_124) (by decide) jss_124 (by decide) (by decide) ?_
  exact K
def cR_51 : jR := (jcr (jup (jcr (jup cR_50 110 21 124) 125 0) 110 22 125) 126 0)
def cH_51 : jH := (jhI (jhI (jhn (jhI (jhI (jhI (jhI (jhI (jhn (jhI cH_50 124 3 101) 125) 125 0 109) 125 1 97) 125 2 121) 125 3 98) 125 4 101) 126) 126 0 115) 126 1 111)
set_option maxRecDepth 20000 in
theorem jco_51 {X : jX} {dd : Nat} {Q : Option Value → jS → Prop} (K : jEx X (dd + 5) jc_229 437 [some (.ref 110)] [.ref 126, .ref 110] (126, cR_51, cH_51) Q) : jEx X (dd + 5) jc_229 383 [some (.ref 110)] [.ref 124, .ref 110] (124, cR_50, cH_50) Q := by
  refine jx_next (pc := 383) (pc' := 384) rfl rfl ?_
  refine jx_next (pc := 384) (pc' := 385) rfl rfl ?_
  refine jx_next (pc := 385) (pc' := 387) rfl rfl ?_
  refine jx_castv (pc := 387) (j := 3) (v := 101) rfl (jclo_ok (by omega) jks_124) (by decide) jss_124 (by decide) (by decide) ?_
  refine jx_putr (pc := 388) rfl (jclo_ok (by omega) jks_110) ?_
  refine jx_next (pc := 391) (pc' := 392) rfl rfl ?_
  refine jx_next (pc := 392) (pc' := 393) rfl rfl ?_
  refine jx_newa (pc := 393) (m := 125) rfl rfl (by decide) jks_125 ⟨by decide, by rw [jss_125]; decide⟩ ?_
  refine jx_next (pc := 395) (pc' := 396) rfl rfl ?_
  refine jx_next (pc := 396) (pc' := 397) rfl rfl ?_
  refine jx_next (pc := 397) (pc' := 399) rfl rfl ?_
  refine jx_castv (pc := 399) (j := 0) (v := 109) rfl (jclo_ok (by omega) jks_125) (by decide) jss_125 (by decide) (by decide) ?_
  refine jx_next (pc := 400) (pc' := 401) rfl rfl ?_
  refine jx_next (pc := 401) (pc' := 402) rfl rfl ?_
  refine jx_next (pc := 402) (pc' := 404) rfl rfl ?_
  refine jx_castv (pc := 404) (j := 1) (v := 97) rfl (jclo_ok (by omega) jks_125) (by decide) jss_125 (by decide) (by decide) ?_
  refine jx_next (pc := 405) (pc' := 406) rfl rfl ?_
  refine jx_next (pc := 406) (pc' := 407) rfl rfl ?_
  refine jx_next (pc := 407) (pc' := 409) rfl rfl ?_
  refine jx_castv (pc := 409) (j := 2) (v := 121) rfl (jclo_ok (by omega) jks_125) (by decide) jss_125 (by decide) (by decide) ?_
  refine jx_next (pc := 410) (pc' := 411) rfl rfl ?_
  refine jx_next (pc := 411) (pc' := 412) rfl rfl ?_
  refine jx_next (pc := 412) (pc' := 414) rfl rfl ?_
  refine jx_castv (pc := 414) (j := 3) (v := 98) rfl (jclo_ok (by omega) jks_125) (by decide) jss_125 (by decide) (by decide) ?_
  refine jx_next (pc := 415) (pc' := 416) rfl rfl ?_
  refine jx_next (pc := 416) (pc' := 417) rfl rfl ?_
  refine jx_next (pc := 417) (pc' := 419) rfl rfl ?_
  refine jx_castv (pc := 419) (j := 4) (v := 101) rfl (jclo_ok (by omega) jks_125) (by decide) jss_125 (by decide) (by decide) ?_
  refine jx_putr (pc := 420) rfl (jclo_ok (by omega) jks_110) ?_
  refine jx_next (pc := 423) (pc' := 424) rfl rfl ?_
  refine jx_next (pc := 424) (pc' := 425) rfl rfl ?_
  refine jx_newa (pc := 425) (m := 126) rfl rfl (by decide) jks_126 ⟨by decide, by rw [jss_126]; decide⟩ ?_
  refine jx_next (pc := 427) (pc' := 428) rfl rfl ?_
  refine jx_next (pc := 428) (pc' := 429) rfl rfl ?_
  refine jx_next (pc := 429) (pc' := 431) rfl rfl ?_
  refine jx_castv (pc := 431) (j := 0) (v := 115) rfl (jclo_ok (by omega) jks_126) (by decide) jss_126 (by decide) (by decide) ?_
  refine jx_next (pc := 432) (pc' := 433) rfl rfl ?_
  refine jx_next (pc := 433) (pc' := 434) rfl rfl ?_
  refine jx_next (pc := 434) (pc' := 436) rfl rfl ?_
  refine jx_castv (pc := 436) (j := 1) (v := 111) rfl (jclo_ok (by omega) jks_126) (by decide) jss_126 (by decide) (by decide) ?_
  exact K
def cR_52 : jR := (jcr (jup (jcr (jup cR_51 110 23 126) 127 0) 110 24 127) 128 0)
def cH_52 : jH := (jhI (jhI (jhn (jhI (jhI (jhI (jhI (jhn (jhI (jhI cH_51 126 2 111) 126 3 110) 127) 127 0 109) 127 1 111) 127 2 114) 127 3 101) 128) 128 0 119) 128 1 101)
set_option maxRecDepth 20000 in
theorem jco_52 {X : jX} {dd : Nat} {Q : Option Value → jS → Prop} (K : jEx X (dd + 5) jc_229 491 [some (.ref 110)] [.ref 128, .ref 110] (128, cR_52, cH_52) Q) : jEx X (dd + 5) jc_229 437 [some (.ref 110)] [.ref 126, .ref 110] (126, cR_51, cH_51) Q := by
  refine jx_next (pc := 437) (pc' := 438) rfl rfl ?_
  refine jx_next (pc := 438) (pc' := 439) rfl rfl ?_
  refine jx_next (pc := 439) (pc' := 441) rfl rfl ?_
  refine jx_castv (pc := 441) (j := 2) (v := 111) rfl (jclo_ok (by omega) jks_126) (by decide) jss_126 (by decide) (by decide) ?_
  refine jx_next (pc := 442) (pc' := 443) rfl rfl ?_
  refine jx_next (pc := 443) (pc' := 444) rfl rfl ?_
  refine jx_next (pc := 444) (pc' := 446) rfl rfl ?_
  refine jx_castv (pc := 446) (j := 3) (v := 110) rfl (jclo_ok (by omega) jks_126) (by decide) jss_126 (by decide) (by decide) ?_
  refine jx_putr (pc := 447) rfl (jclo_ok (by omega) jks_110) ?_
  refine jx_next (pc := 450) (pc' := 451) rfl rfl ?_
  refine jx_next (pc := 451) (pc' := 452) rfl rfl ?_
  refine jx_newa (pc := 452) (m := 127) rfl rfl (by decide) jks_127 ⟨by decide, by rw [jss_127]; decide⟩ ?_
  refine jx_next (pc := 454) (pc' := 455) rfl rfl ?_
  refine jx_next (pc := 455) (pc' := 456) rfl rfl ?_
  refine jx_next (pc := 456) (pc' := 458) rfl rfl ?_
  refine jx_castv (pc := 458) (j := 0) (v := 109) rfl (jclo_ok (by omega) jks_127) (by decide) jss_127 (by decide) (by decide) ?_
  refine jx_next (pc := 459) (pc' := 460) rfl rfl ?_
  refine jx_next (pc := 460) (pc' := 461) rfl rfl ?_
  refine jx_next (pc := 461) (pc' := 463) rfl rfl ?_
  refine jx_castv (pc := 463) (j := 1) (v := 111) rfl (jclo_ok (by omega) jks_127) (by decide) jss_127 (by decide) (by decide) ?_
  refine jx_next (pc := 464) (pc' := 465) rfl rfl ?_
  refine jx_next (pc := 465) (pc' := 466) rfl rfl ?_
  refine jx_next (pc := 466) (pc' := 468) rfl rfl ?_
  refine jx_castv (pc := 468) (j := 2) (v := 114) rfl (jclo_ok (by omega) jks_127) (by decide) jss_127 (by decide) (by decide) ?_
  refine jx_next (pc := 469) (pc' := 470) rfl rfl ?_
  refine jx_next (pc := 470) (pc' := 471) rfl rfl ?_
  refine jx_next (pc := 471) (pc' := 473) rfl rfl ?_
  refine jx_castv (pc := 473) (j := 3) (v := 101) rfl (jclo_ok (by omega) jks_127) (by decide) jss_127 (by decide) (by decide) ?_
  refine jx_putr (pc := 474) rfl (jclo_ok (by omega) jks_110) ?_
  refine jx_next (pc := 477) (pc' := 478) rfl rfl ?_
  refine jx_next (pc := 478) (pc' := 479) rfl rfl ?_
  refine jx_newa (pc := 479) (m := 128) rfl rfl (by decide) jks_128 ⟨by decide, by rw [jss_128]; decide⟩ ?_
  refine jx_next (pc := 481) (pc' := 482) rfl rfl ?_
  refine jx_next (pc := 482) (pc' := 483) rfl rfl ?_
  refine jx_next (pc := 483) (pc' := 485) rfl rfl ?_
  refine jx_castv (pc := 485) (j := 0) (v := 119) rfl (jclo_ok (by omega) jks_128) (by decide) jss_128 (by decide) (by decide) ?_
  refine jx_next (pc := 486) (pc' := 487) rfl rfl ?_
  refine jx_next (pc := 487) (pc' := 488) rfl rfl ?_
  refine jx_next (pc := 488) (pc' := 490) rfl rfl ?_
  refine jx_castv (pc := 490) (j := 1) (v := 101) rfl (jclo_ok (by omega) jks_128) (by decide) jss_128 (by decide) (by decide) ?_
  exact K
def cR_53 : jR := (jcr (jup (jcr (jup cR_52 110 25 128) 129 0) 110 26 129) 130 0)
def cH_53 : jH := (jhI (jhn (jhI (jhI (jhI (jhI (jhn (jhI (jhI (jhI cH_52 128 2 101) 128 3 107) 128 4 115) 129) 129 0 115) 129 1 105) 129 2 122) 129 3 101) 130) 130 0 110)
set_option maxRecDepth 20000 in
theorem jco_53 {X : jX} {dd : Nat} {Q : Option Value → jS → Prop} (K : jEx X (dd + 5) jc_229 546 [some (.ref 110)] [.ref 130, .ref 110] (130, cR_53, cH_53) Q) : jEx X (dd + 5) jc_229 491 [some (.ref 110)] [.ref 128, .ref 110] (128, cR_52, cH_52) Q := by
  refine jx_next (pc := 491) (pc' := 492) rfl rfl ?_
  refine jx_next (pc := 492) (pc' := 493) rfl rfl ?_
  refine jx_next (pc := 493) (pc' := 495) rfl rfl ?_
  refine jx_castv (pc := 495) (j := 2) (v := 101) rfl (jclo_ok (by omega) jks_128) (by decide) jss_128 (by decide) (by decide) ?_
  refine jx_next (pc := 496) (pc' := 497) rfl rfl ?_
  refine jx_next (pc := 497) (pc' := 498) rfl rfl ?_
  refine jx_next (pc := 498) (pc' := 500) rfl rfl ?_
  refine jx_castv (pc := 500) (j := 3) (v := 107) rfl (jclo_ok (by omega) jks_128) (by decide) jss_128 (by decide) (by decide) ?_
  refine jx_next (pc := 501) (pc' := 502) rfl rfl ?_
  refine jx_next (pc := 502) (pc' := 503) rfl rfl ?_
  refine jx_next (pc := 503) (pc' := 505) rfl rfl ?_
  refine jx_castv (pc := 505) (j := 4) (v := 115) rfl (jclo_ok (by omega) jks_128) (by decide) jss_128 (by decide) (by decide) ?_
  refine jx_putr (pc := 506) rfl (jclo_ok (by omega) jks_110) ?_
  refine jx_next (pc := 509) (pc' := 510) rfl rfl ?_
  refine jx_next (pc := 510) (pc' := 511) rfl rfl ?_
  refine jx_newa (pc := 511) (m := 129) rfl rfl (by decide) jks_129 ⟨by decide, by rw [jss_129]; decide⟩ ?_
  refine jx_next (pc := 513) (pc' := 514) rfl rfl ?_
  refine jx_next (pc := 514) (pc' := 515) rfl rfl ?_
  refine jx_next (pc := 515) (pc' := 517) rfl rfl ?_
  refine jx_castv (pc := 517) (j := 0) (v := 115) rfl (jclo_ok (by omega) jks_129) (by decide) jss_129 (by decide) (by decide) ?_
  refine jx_next (pc := 518) (pc' := 519) rfl rfl ?_
  refine jx_next (pc := 519) (pc' := 520) rfl rfl ?_
  refine jx_next (pc := 520) (pc' := 522) rfl rfl ?_
  refine jx_castv (pc := 522) (j := 1) (v := 105) rfl (jclo_ok (by omega) jks_129) (by decide) jss_129 (by decide) (by decide) ?_
  refine jx_next (pc := 523) (pc' := 524) rfl rfl ?_
  refine jx_next (pc := 524) (pc' := 525) rfl rfl ?_
  refine jx_next (pc := 525) (pc' := 527) rfl rfl ?_
  refine jx_castv (pc := 527) (j := 2) (v := 122) rfl (jclo_ok (by omega) jks_129) (by decide) jss_129 (by decide) (by decide) ?_
  refine jx_next (pc := 528) (pc' := 529) rfl rfl ?_
  refine jx_next (pc := 529) (pc' := 530) rfl rfl ?_
  refine jx_next (pc := 530) (pc' := 532) rfl rfl ?_
  refine jx_castv (pc := 532) (j := 3) (v := 101) rfl (jclo_ok (by omega) jks_129) (by decide) jss_129 (by decide) (by decide) ?_
  refine jx_putr (pc := 533) rfl (jclo_ok (by omega) jks_110) ?_
  refine jx_next (pc := 536) (pc' := 537) rfl rfl ?_
  refine jx_next (pc := 537) (pc' := 539) rfl rfl ?_
  refine jx_newa (pc := 539) (m := 130) rfl rfl (by decide) jks_130 ⟨by decide, by rw [jss_130]; decide⟩ ?_
  refine jx_next (pc := 541) (pc' := 542) rfl rfl ?_
  refine jx_next (pc := 542) (pc' := 543) rfl rfl ?_
  refine jx_next (pc := 543) (pc' := 545) rfl rfl ?_
  refine jx_castv (pc := 545) (j := 0) (v := 110) rfl (jclo_ok (by omega) jks_130) (by decide) jss_130 (by decide) (by decide) ?_
  exact K
def cR_54 : jR := (jcr (jup (jcr (jup cR_53 110 27 130) 131 0) 110 28 131) 132 0)
def cH_54 : jH := (jhn (jhI (jhI (jhI (jhn (jhI (jhI (jhI (jhI (jhI cH_53 130 1 117) 130 2 109) 130 3 98) 130 4 101) 130 5 114) 131) 131 0 104) 131 1 111) 131 2 119) 132)
set_option maxRecDepth 20000 in
theorem jco_54 {X : jX} {dd : Nat} {Q : Option Value → jS → Prop} (K : jEx X (dd + 5) jc_229 600 [some (.ref 110)] [.ref 132, .ref 110] (132, cR_54, cH_54) Q) : jEx X (dd + 5) jc_229 546 [some (.ref 110)] [.ref 130, .ref 110] (130, cR_53, cH_53) Q := by
  refine jx_next (pc := 546) (pc' := 547) rfl rfl ?_
  refine jx_next (pc := 547) (pc' := 548) rfl rfl ?_
  refine jx_next (pc := 548) (pc' := 550) rfl rfl ?_
  refine jx_castv (pc := 550) (j := 1) (v := 117) rfl (jclo_ok (by omega) jks_130) (by decide) jss_130 (by decide) (by decide) ?_
  refine jx_next (pc := 551) (pc' := 552) rfl rfl ?_
  refine jx_next (pc := 552) (pc' := 553) rfl rfl ?_
  refine jx_next (pc := 553) (pc' := 555) rfl rfl ?_
  refine jx_castv (pc := 555) (j := 2) (v := 109) rfl (jclo_ok (by omega) jks_130) (by decide) jss_130 (by decide) (by decide) ?_
  refine jx_next (pc := 556) (pc' := 557) rfl rfl ?_
  refine jx_next (pc := 557) (pc' := 558) rfl rfl ?_
  refine jx_next (pc := 558) (pc' := 560) rfl rfl ?_
  refine jx_castv (pc := 560) (j := 3) (v := 98) rfl (jclo_ok (by omega) jks_130) (by decide) jss_130 (by decide) (by decide) ?_
  refine jx_next (pc := 561) (pc' := 562) rfl rfl ?_
  refine jx_next (pc := 562) (pc' := 563) rfl rfl ?_
  refine jx_next (pc := 563) (pc' := 565) rfl rfl ?_
  refine jx_castv (pc := 565) (j := 4) (v := 101) rfl (jclo_ok (by omega) jks_130) (by decide) jss_130 (by decide) (by decide) ?_
  refine jx_next (pc := 566) (pc' := 567) rfl rfl ?_
  refine jx_next (pc := 567) (pc' := 568) rfl rfl ?_
  refine jx_next (pc := 568) (pc' := 570) rfl rfl ?_
  refine jx_castv (pc := 570) (j := 5) (v := 114) rfl (jclo_ok (by omega) jks_130) (by decide) jss_130 (by decide) (by decide) ?_
  refine jx_putr (pc := 571) rfl (jclo_ok (by omega) jks_110) ?_
  refine jx_next (pc := 574) (pc' := 575) rfl rfl ?_
  refine jx_next (pc := 575) (pc' := 576) rfl rfl ?_
  refine jx_newa (pc := 576) (m := 131) rfl rfl (by decide) jks_131 ⟨by decide, by rw [jss_131]; decide⟩ ?_
  refine jx_next (pc := 578) (pc' := 579) rfl rfl ?_
  refine jx_next (pc := 579) (pc' := 580) rfl rfl ?_
  refine jx_next (pc := 580) (pc' := 582) rfl rfl ?_
  refine jx_castv (pc := 582) (j := 0) (v := 104) rfl (jclo_ok (by omega) jks_131) (by decide) jss_131 (by decide) (by decide) ?_
  refine jx_next (pc := 583) (pc' := 584) rfl rfl ?_
  refine jx_next (pc := 584) (pc' := 585) rfl rfl ?_
  refine jx_next (pc := 585) (pc' := 587) rfl rfl ?_
  refine jx_castv (pc := 587) (j := 1) (v := 111) rfl (jclo_ok (by omega) jks_131) (by decide) jss_131 (by decide) (by decide) ?_
  refine jx_next (pc := 588) (pc' := 589) rfl rfl ?_
  refine jx_next (pc := 589) (pc' := 590) rfl rfl ?_
  refine jx_next (pc := 590) (pc' := 592) rfl rfl ?_
  refine jx_castv (pc := 592) (j := 2) (v := 119) rfl (jclo_ok (by omega) jks_131) (by decide) jss_131 (by decide) (by decide) ?_
  refine jx_putr (pc := 593) rfl (jclo_ok (by omega) jks_110) ?_
  refine jx_next (pc := 596) (pc' := 597) rfl rfl ?_
  refine jx_next (pc := 597) (pc' := 598) rfl rfl ?_
  refine jx_newa (pc := 598) (m := 132) rfl rfl (by decide) jks_132 ⟨by decide, by rw [jss_132]; decide⟩ ?_
  exact K
def cR_55 : jR := (jcr (jup (jcr (jup cR_54 110 29 132) 133 0) 110 30 133) 134 0)
def cH_55 : jH := (jhI (jhI (jhI (jhn (jhI (jhI (jhI (jhn (jhI (jhI cH_54 132 0 111) 132 1 114) 133) 133 0 97) 133 1 110) 133 2 100) 134) 134 0 110) 134 1 111) 134 2 116)
set_option maxRecDepth 20000 in
theorem jco_55 {X : jX} {dd : Nat} {Q : Option Value → jS → Prop} (K : jEx X (dd + 5) jc_229 654 [some (.ref 110)] [.ref 134, .ref 110] (134, cR_55, cH_55) Q) : jEx X (dd + 5) jc_229 600 [some (.ref 110)] [.ref 132, .ref 110] (132, cR_54, cH_54) Q := by
  refine jx_next (pc := 600) (pc' := 601) rfl rfl ?_
  refine jx_next (pc := 601) (pc' := 602) rfl rfl ?_
  refine jx_next (pc := 602) (pc' := 604) rfl rfl ?_
  refine jx_castv (pc := 604) (j := 0) (v := 111) rfl (jclo_ok (by omega) jks_132) (by decide) jss_132 (by decide) (by decide) ?_
  refine jx_next (pc := 605) (pc' := 606) rfl rfl ?_
  refine jx_next (pc := 606) (pc' := 607) rfl rfl ?_
  refine jx_next (pc := 607) (pc' := 609) rfl rfl ?_
  refine jx_castv (pc := 609) (j := 1) (v := 114) rfl (jclo_ok (by omega) jks_132) (by decide) jss_132 (by decide) (by decide) ?_
  refine jx_putr (pc := 610) rfl (jclo_ok (by omega) jks_110) ?_
  refine jx_next (pc := 613) (pc' := 614) rfl rfl ?_
  refine jx_next (pc := 614) (pc' := 615) rfl rfl ?_
  refine jx_newa (pc := 615) (m := 133) rfl rfl (by decide) jks_133 ⟨by decide, by rw [jss_133]; decide⟩ ?_
  refine jx_next (pc := 617) (pc' := 618) rfl rfl ?_
  refine jx_next (pc := 618) (pc' := 619) rfl rfl ?_
  refine jx_next (pc := 619) (pc' := 621) rfl rfl ?_
  refine jx_castv (pc := 621) (j := 0) (v := 97) rfl (jclo_ok (by omega) jks_133) (by decide) jss_133 (by decide) (by decide) ?_
  refine jx_next (pc := 622) (pc' := 623) rfl rfl ?_
  refine jx_next (pc := 623) (pc' := 624) rfl rfl ?_
  refine jx_next (pc := 624) (pc' := 626) rfl rfl ?_
  refine jx_castv (pc := 626) (j := 1) (v := 110) rfl (jclo_ok (by omega) jks_133) (by decide) jss_133 (by decide) (by decide) ?_
  refine jx_next (pc := 627) (pc' := 628) rfl rfl ?_
  refine jx_next (pc := 628) (pc' := 629) rfl rfl ?_
  refine jx_next (pc := 629) (pc' := 631) rfl rfl ?_
  refine jx_castv (pc := 631) (j := 2) (v := 100) rfl (jclo_ok (by omega) jks_133) (by decide) jss_133 (by decide) (by decide) ?_
  refine jx_putr (pc := 632) rfl (jclo_ok (by omega) jks_110) ?_
  refine jx_next (pc := 635) (pc' := 636) rfl rfl ?_
  refine jx_next (pc := 636) (pc' := 637) rfl rfl ?_
  refine jx_newa (pc := 637) (m := 134) rfl rfl (by decide) jks_134 ⟨by decide, by rw [jss_134]; decide⟩ ?_
  refine jx_next (pc := 639) (pc' := 640) rfl rfl ?_
  refine jx_next (pc := 640) (pc' := 641) rfl rfl ?_
  refine jx_next (pc := 641) (pc' := 643) rfl rfl ?_
  refine jx_castv (pc := 643) (j := 0) (v := 110) rfl (jclo_ok (by omega) jks_134) (by decide) jss_134 (by decide) (by decide) ?_
  refine jx_next (pc := 644) (pc' := 645) rfl rfl ?_
  refine jx_next (pc := 645) (pc' := 646) rfl rfl ?_
  refine jx_next (pc := 646) (pc' := 648) rfl rfl ?_
  refine jx_castv (pc := 648) (j := 1) (v := 111) rfl (jclo_ok (by omega) jks_134) (by decide) jss_134 (by decide) (by decide) ?_
  refine jx_next (pc := 649) (pc' := 650) rfl rfl ?_
  refine jx_next (pc := 650) (pc' := 651) rfl rfl ?_
  refine jx_next (pc := 651) (pc' := 653) rfl rfl ?_
  refine jx_castv (pc := 653) (j := 2) (v := 116) rfl (jclo_ok (by omega) jks_134) (by decide) jss_134 (by decide) (by decide) ?_
  exact K
def cR_56 : jR := (jcr (jup (jcr (jup (jcr (jup cR_55 110 31 134) 135 0) 110 32 135) 136 0) 110 33 136) 137 0)
def cH_56 : jH := (jhI (jhn (jhI (jhI (jhI (jhn (jhI (jhI (jhI (jhn cH_55 135) 135 0 97) 135 1 108) 135 2 108) 136) 136 0 109) 136 1 105) 136 2 110) 137) 137 0 109)
set_option maxRecDepth 20000 in
theorem jco_56 {X : jX} {dd : Nat} {Q : Option Value → jS → Prop} (K : jEx X (dd + 5) jc_229 710 [some (.ref 110)] [.ref 137, .ref 110] (137, cR_56, cH_56) Q) : jEx X (dd + 5) jc_229 654 [some (.ref 110)] [.ref 134, .ref 110] (134, cR_55, cH_55) Q := by
  refine jx_putr (pc := 654) rfl (jclo_ok (by omega) jks_110) ?_
  refine jx_next (pc := 657) (pc' := 658) rfl rfl ?_
  refine jx_next (pc := 658) (pc' := 659) rfl rfl ?_
  refine jx_newa (pc := 659) (m := 135) rfl rfl (by decide) jks_135 ⟨by decide, by rw [jss_135]; decide⟩ ?_
  refine jx_next (pc := 661) (pc' := 662) rfl rfl ?_
  refine jx_next (pc := 662) (pc' := 663) rfl rfl ?_
  refine jx_next (pc := 663) (pc' := 665) rfl rfl ?_
  refine jx_castv (pc := 665) (j := 0) (v := 97) rfl (jclo_ok (by omega) jks_135) (by decide) jss_135 (by decide) (by decide) ?_
  refine jx_next (pc := 666) (pc' := 667) rfl rfl ?_
  refine jx_next (pc := 667) (pc' := 668) rfl rfl ?_
  refine jx_next (pc := 668) (pc' := 670) rfl rfl ?_
  refine jx_castv (pc := 670) (j := 1) (v := 108) rfl (jclo_ok (by omega) jks_135) (by decide) jss_135 (by decide) (by decide) ?_
  refine jx_next (pc := 671) (pc' := 672) rfl rfl ?_
  refine jx_next (pc := 672) (pc' := 673) rfl rfl ?_
  refine jx_next (pc := 673) (pc' := 675) rfl rfl ?_
  refine jx_castv (pc := 675) (j := 2) (v := 108) rfl (jclo_ok (by omega) jks_135) (by decide) jss_135 (by decide) (by decide) ?_
  refine jx_putr (pc := 676) rfl (jclo_ok (by omega) jks_110) ?_
  refine jx_next (pc := 679) (pc' := 680) rfl rfl ?_
  refine jx_next (pc := 680) (pc' := 681) rfl rfl ?_
  refine jx_newa (pc := 681) (m := 136) rfl rfl (by decide) jks_136 ⟨by decide, by rw [jss_136]; decide⟩ ?_
  refine jx_next (pc := 683) (pc' := 684) rfl rfl ?_
  refine jx_next (pc := 684) (pc' := 685) rfl rfl ?_
  refine jx_next (pc := 685) (pc' := 687) rfl rfl ?_
  refine jx_castv (pc := 687) (j := 0) (v := 109) rfl (jclo_ok (by omega) jks_136) (by decide) jss_136 (by decide) (by decide) ?_
  refine jx_next (pc := 688) (pc' := 689) rfl rfl ?_
  refine jx_next (pc := 689) (pc' := 690) rfl rfl ?_
  refine jx_next (pc := 690) (pc' := 692) rfl rfl ?_
  refine jx_castv (pc := 692) (j := 1) (v := 105) rfl (jclo_ok (by omega) jks_136) (by decide) jss_136 (by decide) (by decide) ?_
  refine jx_next (pc := 693) (pc' := 694) rfl rfl ?_
  refine jx_next (pc := 694) (pc' := 695) rfl rfl ?_
  refine jx_next (pc := 695) (pc' := 697) rfl rfl ?_
  refine jx_castv (pc := 697) (j := 2) (v := 110) rfl (jclo_ok (by omega) jks_136) (by decide) jss_136 (by decide) (by decide) ?_
  refine jx_putr (pc := 698) rfl (jclo_ok (by omega) jks_110) ?_
  refine jx_next (pc := 701) (pc' := 702) rfl rfl ?_
  refine jx_next (pc := 702) (pc' := 703) rfl rfl ?_
  refine jx_newa (pc := 703) (m := 137) rfl rfl (by decide) jks_137 ⟨by decide, by rw [jss_137]; decide⟩ ?_
  refine jx_next (pc := 705) (pc' := 706) rfl rfl ?_
  refine jx_next (pc := 706) (pc' := 707) rfl rfl ?_
  refine jx_next (pc := 707) (pc' := 709) rfl rfl ?_
  refine jx_castv (pc := 709) (j := 0) (v := 109) rfl (jclo_ok (by omega) jks_137) (by decide) jss_137 (by decide) (by decide) ?_
  exact K
def cR_57 : jR := (jcr (jup (jcr (jup (jcr (jup (jcr (jup (jcr (jup (jcr (jup (jcr (jup cR_56 110 34 137) 138 0) 110 36 138) 139 0) 110 37 139) 140 0) 110 38 140) 141 0) 110 39 141) 142 0) 110 40 142) 143 0) 110 41 143) 144 0)
def cH_57 : jH := (jhI (jhn (jhn (jhn (jhn (jhn (jhn (jhn (jhI (jhI cH_56 137 1 97) 137 2 120) 138) 139) 140) 141) 142) 143) 144) 144 0 5)
set_option maxRecDepth 20000 in
theorem jco_57 {X : jX} {dd : Nat} {Q : Option Value → jS → Prop} (K : jEx X (dd + 5) jc_229 780 [some (.ref 110)] [.ref 144, .ref 110] (144, cR_57, cH_57) Q) : jEx X (dd + 5) jc_229 710 [some (.ref 110)] [.ref 137, .ref 110] (137, cR_56, cH_56) Q := by
  refine jx_next (pc := 710) (pc' := 711) rfl rfl ?_
  refine jx_next (pc := 711) (pc' := 712) rfl rfl ?_
  refine jx_next (pc := 712) (pc' := 714) rfl rfl ?_
  refine jx_castv (pc := 714) (j := 1) (v := 97) rfl (jclo_ok (by omega) jks_137) (by decide) jss_137 (by decide) (by decide) ?_
  refine jx_next (pc := 715) (pc' := 716) rfl rfl ?_
  refine jx_next (pc := 716) (pc' := 717) rfl rfl ?_
  refine jx_next (pc := 717) (pc' := 719) rfl rfl ?_
  refine jx_castv (pc := 719) (j := 2) (v := 120) rfl (jclo_ok (by omega) jks_137) (by decide) jss_137 (by decide) (by decide) ?_
  refine jx_putr (pc := 720) rfl (jclo_ok (by omega) jks_110) ?_
  refine jx_next (pc := 723) (pc' := 724) rfl rfl ?_
  refine jx_next (pc := 724) (pc' := 726) rfl rfl ?_
  refine jx_newa (pc := 726) (m := 138) rfl rfl (by decide) jks_138 ⟨by decide, by rw [jss_138]; decide⟩ ?_
  refine jx_putr (pc := 728) rfl (jclo_ok (by omega) jks_110) ?_
  refine jx_next (pc := 731) (pc' := 732) rfl rfl ?_
  refine jx_next (pc := 732) (pc' := 734) rfl rfl ?_
  refine jx_newa (pc := 734) (m := 139) rfl rfl (by decide) jks_139 ⟨by decide, by rw [jss_139]; decide⟩ ?_
  refine jx_putr (pc := 736) rfl (jclo_ok (by omega) jks_110) ?_
  refine jx_next (pc := 739) (pc' := 740) rfl rfl ?_
  refine jx_next (pc := 740) (pc' := 742) rfl rfl ?_
  refine jx_newa (pc := 742) (m := 140) rfl rfl (by decide) jks_140 ⟨by decide, by rw [jss_140]; decide⟩ ?_
  refine jx_putr (pc := 744) rfl (jclo_ok (by omega) jks_110) ?_
  refine jx_next (pc := 747) (pc' := 748) rfl rfl ?_
  refine jx_next (pc := 748) (pc' := 750) rfl rfl ?_
  refine jx_newa (pc := 750) (m := 141) rfl rfl (by decide) jks_141 ⟨by decide, by rw [jss_141]; decide⟩ ?_
  refine jx_putr (pc := 752) rfl (jclo_ok (by omega) jks_110) ?_
  refine jx_next (pc := 755) (pc' := 756) rfl rfl ?_
  refine jx_next (pc := 756) (pc' := 758) rfl rfl ?_
  refine jx_newa (pc := 758) (m := 142) rfl rfl (by decide) jks_142 ⟨by decide, by rw [jss_142]; decide⟩ ?_
  refine jx_putr (pc := 760) rfl (jclo_ok (by omega) jks_110) ?_
  refine jx_next (pc := 763) (pc' := 764) rfl rfl ?_
  refine jx_next (pc := 764) (pc' := 766) rfl rfl ?_
  refine jx_newa (pc := 766) (m := 143) rfl rfl (by decide) jks_143 ⟨by decide, by rw [jss_143]; decide⟩ ?_
  refine jx_putr (pc := 768) rfl (jclo_ok (by omega) jks_110) ?_
  refine jx_next (pc := 771) (pc' := 772) rfl rfl ?_
  refine jx_next (pc := 772) (pc' := 774) rfl rfl ?_
  refine jx_newa (pc := 774) (m := 144) rfl rfl (by decide) jks_144 ⟨by decide, by rw [jss_144]; decide⟩ ?_
  refine jx_next (pc := 776) (pc' := 777) rfl rfl ?_
  refine jx_next (pc := 777) (pc' := 778) rfl rfl ?_
  refine jx_next (pc := 778) (pc' := 779) rfl rfl ?_
  refine jx_iastv (pc := 779) (j := 0) rfl (jclo_ok (by omega) jks_144) (by decide) jss_144 (by decide) ?_
  exact K
def cR_58 : jR := (jcr (jup (jcr (jup (jcr (jup cR_57 110 42 144) 145 0) 110 43 145) 146 0) 110 44 146) 147 0)
def cH_58 : jH := (jhn (jhn (jhI (jhI (jhn (jhI (jhI (jhI (jhI (jhI cH_57 144 1 50) 144 2 2) 144 3 5) 144 4 50) 144 5 2) 145) 145 0 (-1)) 145 1 (-1)) 146) 147)
set_option maxRecDepth 20000 in
theorem jco_58 {X : jX} {dd : Nat} {Q : Option Value → jS → Prop} (K : jEx X (dd + 5) jc_229 833 [some (.ref 110)] [.ref 147, .ref 110] (147, cR_58, cH_58) Q) : jEx X (dd + 5) jc_229 780 [some (.ref 110)] [.ref 144, .ref 110] (144, cR_57, cH_57) Q := by
  refine jx_next (pc := 780) (pc' := 781) rfl rfl ?_
  refine jx_next (pc := 781) (pc' := 782) rfl rfl ?_
  refine jx_next (pc := 782) (pc' := 784) rfl rfl ?_
  refine jx_iastv (pc := 784) (j := 1) rfl (jclo_ok (by omega) jks_144) (by decide) jss_144 (by decide) ?_
  refine jx_next (pc := 785) (pc' := 786) rfl rfl ?_
  refine jx_next (pc := 786) (pc' := 787) rfl rfl ?_
  refine jx_next (pc := 787) (pc' := 788) rfl rfl ?_
  refine jx_iastv (pc := 788) (j := 2) rfl (jclo_ok (by omega) jks_144) (by decide) jss_144 (by decide) ?_
  refine jx_next (pc := 789) (pc' := 790) rfl rfl ?_
  refine jx_next (pc := 790) (pc' := 791) rfl rfl ?_
  refine jx_next (pc := 791) (pc' := 792) rfl rfl ?_
  refine jx_iastv (pc := 792) (j := 3) rfl (jclo_ok (by omega) jks_144) (by decide) jss_144 (by decide) ?_
  refine jx_next (pc := 793) (pc' := 794) rfl rfl ?_
  refine jx_next (pc := 794) (pc' := 795) rfl rfl ?_
  refine jx_next (pc := 795) (pc' := 797) rfl rfl ?_
  refine jx_iastv (pc := 797) (j := 4) rfl (jclo_ok (by omega) jks_144) (by decide) jss_144 (by decide) ?_
  refine jx_next (pc := 798) (pc' := 799) rfl rfl ?_
  refine jx_next (pc := 799) (pc' := 800) rfl rfl ?_
  refine jx_next (pc := 800) (pc' := 801) rfl rfl ?_
  refine jx_iastv (pc := 801) (j := 5) rfl (jclo_ok (by omega) jks_144) (by decide) jss_144 (by decide) ?_
  refine jx_putr (pc := 802) rfl (jclo_ok (by omega) jks_110) ?_
  refine jx_next (pc := 805) (pc' := 806) rfl rfl ?_
  refine jx_next (pc := 806) (pc' := 807) rfl rfl ?_
  refine jx_newa (pc := 807) (m := 145) rfl rfl (by decide) jks_145 ⟨by decide, by rw [jss_145]; decide⟩ ?_
  refine jx_next (pc := 809) (pc' := 810) rfl rfl ?_
  refine jx_next (pc := 810) (pc' := 811) rfl rfl ?_
  refine jx_next (pc := 811) (pc' := 812) rfl rfl ?_
  refine jx_iastv (pc := 812) (j := 0) rfl (jclo_ok (by omega) jks_145) (by decide) jss_145 (by decide) ?_
  refine jx_next (pc := 813) (pc' := 814) rfl rfl ?_
  refine jx_next (pc := 814) (pc' := 815) rfl rfl ?_
  refine jx_next (pc := 815) (pc' := 816) rfl rfl ?_
  refine jx_iastv (pc := 816) (j := 1) rfl (jclo_ok (by omega) jks_145) (by decide) jss_145 (by decide) ?_
  refine jx_putr (pc := 817) rfl (jclo_ok (by omega) jks_110) ?_
  refine jx_next (pc := 820) (pc' := 821) rfl rfl ?_
  refine jx_next (pc := 821) (pc' := 822) rfl rfl ?_
  refine jx_newa (pc := 822) (m := 146) rfl rfl (by decide) jks_146 ⟨by decide, by rw [jss_146]; decide⟩ ?_
  refine jx_putr (pc := 824) rfl (jclo_ok (by omega) jks_110) ?_
  refine jx_next (pc := 827) (pc' := 828) rfl rfl ?_
  refine jx_next (pc := 828) (pc' := 831) rfl rfl ?_
  refine jx_newa (pc := 831) (m := 147) rfl rfl (by decide) jks_147 ⟨by decide, by rw [jss_147]; decide⟩ ?_
  exact K
def cR_59 : jR := (jcr (jup (jcr (jup (jcr (jup (jcr (jup (jcr (jup (jcr (jup cR_58 110 45 147) 148 0) 110 50 148) 149 0) 110 51 149) 150 0) 110 52 150) 151 0) 110 54 151) 152 0) 110 55 152) 153 0)
def cH_59 : jH := (jhI (jhI (jhI (jhn (jhL (jhn (jhn (jhn (jhn (jhn cH_58 148) 149) 150) 151) 152) 110 58 1) 153) 153 0 102) 153 1 105) 153 2 114)
set_option maxRecDepth 20000 in
theorem jco_59 {X : jX} {dd : Nat} {Q : Option Value → jS → Prop} (K : jEx X (dd + 5) jc_229 902 [some (.ref 110)] [.ref 153, .ref 153, .ref 110] (153, cR_59, cH_59) Q) : jEx X (dd + 5) jc_229 833 [some (.ref 110)] [.ref 147, .ref 110] (147, cR_58, cH_58) Q := by
  refine jx_putr (pc := 833) rfl (jclo_ok (by omega) jks_110) ?_
  refine jx_next (pc := 836) (pc' := 837) rfl rfl ?_
  refine jx_next (pc := 837) (pc' := 839) rfl rfl ?_
  refine jx_newa (pc := 839) (m := 148) rfl rfl (by decide) jks_148 ⟨by decide, by rw [jss_148]; decide⟩ ?_
  refine jx_putr (pc := 841) rfl (jclo_ok (by omega) jks_110) ?_
  refine jx_next (pc := 844) (pc' := 845) rfl rfl ?_
  refine jx_next (pc := 845) (pc' := 847) rfl rfl ?_
  refine jx_newa (pc := 847) (m := 149) rfl rfl (by decide) jks_149 ⟨by decide, by rw [jss_149]; decide⟩ ?_
  refine jx_putr (pc := 849) rfl (jclo_ok (by omega) jks_110) ?_
  refine jx_next (pc := 852) (pc' := 853) rfl rfl ?_
  refine jx_next (pc := 853) (pc' := 855) rfl rfl ?_
  refine jx_newa (pc := 855) (m := 150) rfl rfl (by decide) jks_150 ⟨by decide, by rw [jss_150]; decide⟩ ?_
  refine jx_putr (pc := 857) rfl (jclo_ok (by omega) jks_110) ?_
  refine jx_next (pc := 860) (pc' := 861) rfl rfl ?_
  refine jx_next (pc := 861) (pc' := 863) rfl rfl ?_
  refine jx_newa (pc := 863) (m := 151) rfl rfl (by decide) jks_151 ⟨by decide, by rw [jss_151]; decide⟩ ?_
  refine jx_putr (pc := 865) rfl (jclo_ok (by omega) jks_110) ?_
  refine jx_next (pc := 868) (pc' := 869) rfl rfl ?_
  refine jx_next (pc := 869) (pc' := 872) rfl rfl ?_
  refine jx_newa (pc := 872) (m := 152) rfl rfl (by decide) jks_152 ⟨by decide, by rw [jss_152]; decide⟩ ?_
  refine jx_putr (pc := 874) rfl (jclo_ok (by omega) jks_110) ?_
  refine jx_next (pc := 877) (pc' := 878) rfl rfl ?_
  refine jx_next (pc := 878) (pc' := 879) rfl rfl ?_
  refine jx_putl (pc := 879) rfl (jclo_ok (by omega) jks_110) ?_
  refine jx_next (pc := 882) (pc' := 883) rfl rfl ?_
  refine jx_next (pc := 883) (pc' := 884) rfl rfl ?_
  refine jx_newa (pc := 884) (m := 153) rfl rfl (by decide) jks_153 ⟨by decide, by rw [jss_153]; decide⟩ ?_
  refine jx_next (pc := 886) (pc' := 887) rfl rfl ?_
  refine jx_next (pc := 887) (pc' := 888) rfl rfl ?_
  refine jx_next (pc := 888) (pc' := 890) rfl rfl ?_
  refine jx_castv (pc := 890) (j := 0) (v := 102) rfl (jclo_ok (by omega) jks_153) (by decide) jss_153 (by decide) (by decide) ?_
  refine jx_next (pc := 891) (pc' := 892) rfl rfl ?_
  refine jx_next (pc := 892) (pc' := 893) rfl rfl ?_
  refine jx_next (pc := 893) (pc' := 895) rfl rfl ?_
  refine jx_castv (pc := 895) (j := 1) (v := 105) rfl (jclo_ok (by omega) jks_153) (by decide) jss_153 (by decide) (by decide) ?_
  refine jx_next (pc := 896) (pc' := 897) rfl rfl ?_
  refine jx_next (pc := 897) (pc' := 898) rfl rfl ?_
  refine jx_next (pc := 898) (pc' := 900) rfl rfl ?_
  refine jx_castv (pc := 900) (j := 2) (v := 114) rfl (jclo_ok (by omega) jks_153) (by decide) jss_153 (by decide) (by decide) ?_
  refine jx_next (pc := 901) (pc' := 902) rfl rfl ?_
  exact K
def cR_60 : jR := (jcr (jup (jcr (jup cR_59 110 59 153) 154 0) 110 60 154) 155 0)
def cH_60 : jH := (jhI (jhI (jhn (jhI (jhI (jhI (jhI (jhn (jhI (jhI cH_59 153 3 115) 153 4 116) 154) 154 0 108) 154 1 97) 154 2 115) 154 3 116) 155) 155 0 111) 155 1 102)
set_option maxRecDepth 20000 in
theorem jco_60 {X : jX} {dd : Nat} {Q : Option Value → jS → Prop} (K : jEx X (dd + 5) jc_229 956 [some (.ref 110)] [.ref 155, .ref 155, .ref 110] (155, cR_60, cH_60) Q) : jEx X (dd + 5) jc_229 902 [some (.ref 110)] [.ref 153, .ref 153, .ref 110] (153, cR_59, cH_59) Q := by
  refine jx_next (pc := 902) (pc' := 903) rfl rfl ?_
  refine jx_next (pc := 903) (pc' := 905) rfl rfl ?_
  refine jx_castv (pc := 905) (j := 3) (v := 115) rfl (jclo_ok (by omega) jks_153) (by decide) jss_153 (by decide) (by decide) ?_
  refine jx_next (pc := 906) (pc' := 907) rfl rfl ?_
  refine jx_next (pc := 907) (pc' := 908) rfl rfl ?_
  refine jx_next (pc := 908) (pc' := 910) rfl rfl ?_
  refine jx_castv (pc := 910) (j := 4) (v := 116) rfl (jclo_ok (by omega) jks_153) (by decide) jss_153 (by decide) (by decide) ?_
  refine jx_putr (pc := 911) rfl (jclo_ok (by omega) jks_110) ?_
  refine jx_next (pc := 914) (pc' := 915) rfl rfl ?_
  refine jx_next (pc := 915) (pc' := 916) rfl rfl ?_
  refine jx_newa (pc := 916) (m := 154) rfl rfl (by decide) jks_154 ⟨by decide, by rw [jss_154]; decide⟩ ?_
  refine jx_next (pc := 918) (pc' := 919) rfl rfl ?_
  refine jx_next (pc := 919) (pc' := 920) rfl rfl ?_
  refine jx_next (pc := 920) (pc' := 922) rfl rfl ?_
  refine jx_castv (pc := 922) (j := 0) (v := 108) rfl (jclo_ok (by omega) jks_154) (by decide) jss_154 (by decide) (by decide) ?_
  refine jx_next (pc := 923) (pc' := 924) rfl rfl ?_
  refine jx_next (pc := 924) (pc' := 925) rfl rfl ?_
  refine jx_next (pc := 925) (pc' := 927) rfl rfl ?_
  refine jx_castv (pc := 927) (j := 1) (v := 97) rfl (jclo_ok (by omega) jks_154) (by decide) jss_154 (by decide) (by decide) ?_
  refine jx_next (pc := 928) (pc' := 929) rfl rfl ?_
  refine jx_next (pc := 929) (pc' := 930) rfl rfl ?_
  refine jx_next (pc := 930) (pc' := 932) rfl rfl ?_
  refine jx_castv (pc := 932) (j := 2) (v := 115) rfl (jclo_ok (by omega) jks_154) (by decide) jss_154 (by decide) (by decide) ?_
  refine jx_next (pc := 933) (pc' := 934) rfl rfl ?_
  refine jx_next (pc := 934) (pc' := 935) rfl rfl ?_
  refine jx_next (pc := 935) (pc' := 937) rfl rfl ?_
  refine jx_castv (pc := 937) (j := 3) (v := 116) rfl (jclo_ok (by omega) jks_154) (by decide) jss_154 (by decide) (by decide) ?_
  refine jx_putr (pc := 938) rfl (jclo_ok (by omega) jks_110) ?_
  refine jx_next (pc := 941) (pc' := 942) rfl rfl ?_
  refine jx_next (pc := 942) (pc' := 943) rfl rfl ?_
  refine jx_newa (pc := 943) (m := 155) rfl rfl (by decide) jks_155 ⟨by decide, by rw [jss_155]; decide⟩ ?_
  refine jx_next (pc := 945) (pc' := 946) rfl rfl ?_
  refine jx_next (pc := 946) (pc' := 947) rfl rfl ?_
  refine jx_next (pc := 947) (pc' := 949) rfl rfl ?_
  refine jx_castv (pc := 949) (j := 0) (v := 111) rfl (jclo_ok (by omega) jks_155) (by decide) jss_155 (by decide) (by decide) ?_
  refine jx_next (pc := 950) (pc' := 951) rfl rfl ?_
  refine jx_next (pc := 951) (pc' := 952) rfl rfl ?_
  refine jx_next (pc := 952) (pc' := 954) rfl rfl ?_
  refine jx_castv (pc := 954) (j := 1) (v := 102) rfl (jclo_ok (by omega) jks_155) (by decide) jss_155 (by decide) (by decide) ?_
  refine jx_next (pc := 955) (pc' := 956) rfl rfl ?_
  exact K
def cR_61 : jR := (jcr (jup (jcr (jup cR_60 110 61 155) 156 0) 110 62 156) 157 0)
def cH_61 : jH := (jhn (jhI (jhI (jhI (jhI (jhI (jhn (jhI (jhI (jhI cH_60 155 2 116) 155 3 101) 155 4 110) 156) 156 0 116) 156 1 111) 156 2 116) 156 3 97) 156 4 108) 157)
set_option maxRecDepth 20000 in
theorem jco_61 {X : jX} {dd : Nat} {Q : Option Value → jS → Prop} (K : jEx X (dd + 5) jc_229 1010 [some (.ref 110)] [.ref 157, .ref 157, .ref 110] (157, cR_61, cH_61) Q) : jEx X (dd + 5) jc_229 956 [some (.ref 110)] [.ref 155, .ref 155, .ref 110] (155, cR_60, cH_60) Q := by
  refine jx_next (pc := 956) (pc' := 957) rfl rfl ?_
  refine jx_next (pc := 957) (pc' := 959) rfl rfl ?_
  refine jx_castv (pc := 959) (j := 2) (v := 116) rfl (jclo_ok (by omega) jks_155) (by decide) jss_155 (by decide) (by decide) ?_
  refine jx_next (pc := 960) (pc' := 961) rfl rfl ?_
  refine jx_next (pc := 961) (pc' := 962) rfl rfl ?_
  refine jx_next (pc := 962) (pc' := 964) rfl rfl ?_
  refine jx_castv (pc := 964) (j := 3) (v := 101) rfl (jclo_ok (by omega) jks_155) (by decide) jss_155 (by decide) (by decide) ?_
  refine jx_next (pc := 965) (pc' := 966) rfl rfl ?_
  refine jx_next (pc := 966) (pc' := 967) rfl rfl ?_
  refine jx_next (pc := 967) (pc' := 969) rfl rfl ?_
  refine jx_castv (pc := 969) (j := 4) (v := 110) rfl (jclo_ok (by omega) jks_155) (by decide) jss_155 (by decide) (by decide) ?_
  refine jx_putr (pc := 970) rfl (jclo_ok (by omega) jks_110) ?_
  refine jx_next (pc := 973) (pc' := 974) rfl rfl ?_
  refine jx_next (pc := 974) (pc' := 975) rfl rfl ?_
  refine jx_newa (pc := 975) (m := 156) rfl rfl (by decide) jks_156 ⟨by decide, by rw [jss_156]; decide⟩ ?_
  refine jx_next (pc := 977) (pc' := 978) rfl rfl ?_
  refine jx_next (pc := 978) (pc' := 979) rfl rfl ?_
  refine jx_next (pc := 979) (pc' := 981) rfl rfl ?_
  refine jx_castv (pc := 981) (j := 0) (v := 116) rfl (jclo_ok (by omega) jks_156) (by decide) jss_156 (by decide) (by decide) ?_
  refine jx_next (pc := 982) (pc' := 983) rfl rfl ?_
  refine jx_next (pc := 983) (pc' := 984) rfl rfl ?_
  refine jx_next (pc := 984) (pc' := 986) rfl rfl ?_
  refine jx_castv (pc := 986) (j := 1) (v := 111) rfl (jclo_ok (by omega) jks_156) (by decide) jss_156 (by decide) (by decide) ?_
  refine jx_next (pc := 987) (pc' := 988) rfl rfl ?_
  refine jx_next (pc := 988) (pc' := 989) rfl rfl ?_
  refine jx_next (pc := 989) (pc' := 991) rfl rfl ?_
  refine jx_castv (pc := 991) (j := 2) (v := 116) rfl (jclo_ok (by omega) jks_156) (by decide) jss_156 (by decide) (by decide) ?_
  refine jx_next (pc := 992) (pc' := 993) rfl rfl ?_
  refine jx_next (pc := 993) (pc' := 994) rfl rfl ?_
  refine jx_next (pc := 994) (pc' := 996) rfl rfl ?_
  refine jx_castv (pc := 996) (j := 3) (v := 97) rfl (jclo_ok (by omega) jks_156) (by decide) jss_156 (by decide) (by decide) ?_
  refine jx_next (pc := 997) (pc' := 998) rfl rfl ?_
  refine jx_next (pc := 998) (pc' := 999) rfl rfl ?_
  refine jx_next (pc := 999) (pc' := 1001) rfl rfl ?_
  refine jx_castv (pc := 1001) (j := 4) (v := 108) rfl (jclo_ok (by omega) jks_156) (by decide) jss_156 (by decide) (by decide) ?_
  refine jx_putr (pc := 1002) rfl (jclo_ok (by omega) jks_110) ?_
  refine jx_next (pc := 1005) (pc' := 1006) rfl rfl ?_
  refine jx_next (pc := 1006) (pc' := 1007) rfl rfl ?_
  refine jx_newa (pc := 1007) (m := 157) rfl rfl (by decide) jks_157 ⟨by decide, by rw [jss_157]; decide⟩ ?_
  refine jx_next (pc := 1009) (pc' := 1010) rfl rfl ?_
  exact K
def cR_62 : jR := (jup (jcr (jup cR_61 110 63 157) 158 0) 110 64 158)
def cH_62 : jH := (jhI (jhI (jhI (jhI (jhI (jhn (jhI (jhI (jhI (jhI cH_61 157 0 109) 157 1 111) 157 2 115) 157 3 116) 158) 158 0 108) 158 1 101) 158 2 97) 158 3 115) 158 4 116)
set_option maxRecDepth 20000 in
theorem jco_62 {X : jX} {dd : Nat} {Q : Option Value → jS → Prop} (K : jEx X (dd + 5) jc_229 1064 [some (.ref 110)] [] (158, cR_62, cH_62) Q) : jEx X (dd + 5) jc_229 1010 [some (.ref 110)] [.ref 157, .ref 157, .ref 110] (157, cR_61, cH_61) Q := by
  refine jx_next (pc := 1010) (pc' := 1011) rfl rfl ?_
  refine jx_next (pc := 1011) (pc' := 1013) rfl rfl ?_
  refine jx_castv (pc := 1013) (j := 0) (v := 109) rfl (jclo_ok (by omega) jks_157) (by decide) jss_157 (by decide) (by decide) ?_
  refine jx_next (pc := 1014) (pc' := 1015) rfl rfl ?_
  refine jx_next (pc := 1015) (pc' := 1016) rfl rfl ?_
  refine jx_next (pc := 1016) (pc' := 1018) rfl rfl ?_
  refine jx_castv (pc := 1018) (j := 1) (v := 111) rfl (jclo_ok (by omega) jks_157) (by decide) jss_157 (by decide) (by decide) ?_
  refine jx_next (pc := 1019) (pc' := 1020) rfl rfl ?_
  refine jx_next (pc := 1020) (pc' := 1021) rfl rfl ?_
  refine jx_next (pc := 1021) (pc' := 1023) rfl rfl ?_
  refine jx_castv (pc := 1023) (j := 2) (v := 115) rfl (jclo_ok (by omega) jks_157) (by decide) jss_157 (by decide) (by decide) ?_
  refine jx_next (pc := 1024) (pc' := 1025) rfl rfl ?_
  refine jx_next (pc := 1025) (pc' := 1026) rfl rfl ?_
  refine jx_next (pc := 1026) (pc' := 1028) rfl rfl ?_
  refine jx_castv (pc := 1028) (j := 3) (v := 116) rfl (jclo_ok (by omega) jks_157) (by decide) jss_157 (by decide) (by decide) ?_
  refine jx_putr (pc := 1029) rfl (jclo_ok (by omega) jks_110) ?_
  refine jx_next (pc := 1032) (pc' := 1033) rfl rfl ?_
  refine jx_next (pc := 1033) (pc' := 1034) rfl rfl ?_
  refine jx_newa (pc := 1034) (m := 158) rfl rfl (by decide) jks_158 ⟨by decide, by rw [jss_158]; decide⟩ ?_
  refine jx_next (pc := 1036) (pc' := 1037) rfl rfl ?_
  refine jx_next (pc := 1037) (pc' := 1038) rfl rfl ?_
  refine jx_next (pc := 1038) (pc' := 1040) rfl rfl ?_
  refine jx_castv (pc := 1040) (j := 0) (v := 108) rfl (jclo_ok (by omega) jks_158) (by decide) jss_158 (by decide) (by decide) ?_
  refine jx_next (pc := 1041) (pc' := 1042) rfl rfl ?_
  refine jx_next (pc := 1042) (pc' := 1043) rfl rfl ?_
  refine jx_next (pc := 1043) (pc' := 1045) rfl rfl ?_
  refine jx_castv (pc := 1045) (j := 1) (v := 101) rfl (jclo_ok (by omega) jks_158) (by decide) jss_158 (by decide) (by decide) ?_
  refine jx_next (pc := 1046) (pc' := 1047) rfl rfl ?_
  refine jx_next (pc := 1047) (pc' := 1048) rfl rfl ?_
  refine jx_next (pc := 1048) (pc' := 1050) rfl rfl ?_
  refine jx_castv (pc := 1050) (j := 2) (v := 97) rfl (jclo_ok (by omega) jks_158) (by decide) jss_158 (by decide) (by decide) ?_
  refine jx_next (pc := 1051) (pc' := 1052) rfl rfl ?_
  refine jx_next (pc := 1052) (pc' := 1053) rfl rfl ?_
  refine jx_next (pc := 1053) (pc' := 1055) rfl rfl ?_
  refine jx_castv (pc := 1055) (j := 3) (v := 115) rfl (jclo_ok (by omega) jks_158) (by decide) jss_158 (by decide) (by decide) ?_
  refine jx_next (pc := 1056) (pc' := 1057) rfl rfl ?_
  refine jx_next (pc := 1057) (pc' := 1058) rfl rfl ?_
  refine jx_next (pc := 1058) (pc' := 1060) rfl rfl ?_
  refine jx_castv (pc := 1060) (j := 4) (v := 116) rfl (jclo_ok (by omega) jks_158) (by decide) jss_158 (by decide) (by decide) ?_
  refine jx_putr (pc := 1061) rfl (jclo_ok (by omega) jks_110) ?_
  exact K
def cR_63 : jR := (jcr (jup (jcr (jup (jcr cR_62 159 0) 110 65 159) 160 0) 110 66 160) 161 0)
def cH_63 : jH := (jhI (jhn (jhI (jhI (jhI (jhn (jhI (jhI (jhI (jhn cH_62 159) 159 0 110) 159 1 111) 159 2 116) 160) 160 0 97) 160 1 110) 160 2 100) 161) 161 0 111)
set_option maxRecDepth 20000 in
theorem jco_63 {X : jX} {dd : Nat} {Q : Option Value → jS → Prop} (K : jEx X (dd + 5) jc_229 1118 [some (.ref 110)] [.ref 161, .ref 161, .ref 110] (161, cR_63, cH_63) Q) : jEx X (dd + 5) jc_229 1064 [some (.ref 110)] [] (158, cR_62, cH_62) Q := by
  refine jx_next (pc := 1064) (pc' := 1065) rfl rfl ?_
  refine jx_next (pc := 1065) (pc' := 1066) rfl rfl ?_
  refine jx_newa (pc := 1066) (m := 159) rfl rfl (by decide) jks_159 ⟨by decide, by rw [jss_159]; decide⟩ ?_
  refine jx_next (pc := 1068) (pc' := 1069) rfl rfl ?_
  refine jx_next (pc := 1069) (pc' := 1070) rfl rfl ?_
  refine jx_next (pc := 1070) (pc' := 1072) rfl rfl ?_
  refine jx_castv (pc := 1072) (j := 0) (v := 110) rfl (jclo_ok (by omega) jks_159) (by decide) jss_159 (by decide) (by decide) ?_
  refine jx_next (pc := 1073) (pc' := 1074) rfl rfl ?_
  refine jx_next (pc := 1074) (pc' := 1075) rfl rfl ?_
  refine jx_next (pc := 1075) (pc' := 1077) rfl rfl ?_
  refine jx_castv (pc := 1077) (j := 1) (v := 111) rfl (jclo_ok (by omega) jks_159) (by decide) jss_159 (by decide) (by decide) ?_
  refine jx_next (pc := 1078) (pc' := 1079) rfl rfl ?_
  refine jx_next (pc := 1079) (pc' := 1080) rfl rfl ?_
  refine jx_next (pc := 1080) (pc' := 1082) rfl rfl ?_
  refine jx_castv (pc := 1082) (j := 2) (v := 116) rfl (jclo_ok (by omega) jks_159) (by decide) jss_159 (by decide) (by decide) ?_
  refine jx_putr (pc := 1083) rfl (jclo_ok (by omega) jks_110) ?_
  refine jx_next (pc := 1086) (pc' := 1087) rfl rfl ?_
  refine jx_next (pc := 1087) (pc' := 1088) rfl rfl ?_
  refine jx_newa (pc := 1088) (m := 160) rfl rfl (by decide) jks_160 ⟨by decide, by rw [jss_160]; decide⟩ ?_
  refine jx_next (pc := 1090) (pc' := 1091) rfl rfl ?_
  refine jx_next (pc := 1091) (pc' := 1092) rfl rfl ?_
  refine jx_next (pc := 1092) (pc' := 1094) rfl rfl ?_
  refine jx_castv (pc := 1094) (j := 0) (v := 97) rfl (jclo_ok (by omega) jks_160) (by decide) jss_160 (by decide) (by decide) ?_
  refine jx_next (pc := 1095) (pc' := 1096) rfl rfl ?_
  refine jx_next (pc := 1096) (pc' := 1097) rfl rfl ?_
  refine jx_next (pc := 1097) (pc' := 1099) rfl rfl ?_
  refine jx_castv (pc := 1099) (j := 1) (v := 110) rfl (jclo_ok (by omega) jks_160) (by decide) jss_160 (by decide) (by decide) ?_
  refine jx_next (pc := 1100) (pc' := 1101) rfl rfl ?_
  refine jx_next (pc := 1101) (pc' := 1102) rfl rfl ?_
  refine jx_next (pc := 1102) (pc' := 1104) rfl rfl ?_
  refine jx_castv (pc := 1104) (j := 2) (v := 100) rfl (jclo_ok (by omega) jks_160) (by decide) jss_160 (by decide) (by decide) ?_
  refine jx_putr (pc := 1105) rfl (jclo_ok (by omega) jks_110) ?_
  refine jx_next (pc := 1108) (pc' := 1109) rfl rfl ?_
  refine jx_next (pc := 1109) (pc' := 1110) rfl rfl ?_
  refine jx_newa (pc := 1110) (m := 161) rfl rfl (by decide) jks_161 ⟨by decide, by rw [jss_161]; decide⟩ ?_
  refine jx_next (pc := 1112) (pc' := 1113) rfl rfl ?_
  refine jx_next (pc := 1113) (pc' := 1114) rfl rfl ?_
  refine jx_next (pc := 1114) (pc' := 1116) rfl rfl ?_
  refine jx_castv (pc := 1116) (j := 0) (v := 111) rfl (jclo_ok (by omega) jks_161) (by decide) jss_161 (by decide) (by decide) ?_
  refine jx_next (pc := 1117) (pc' := 1118) rfl rfl ?_
  exact K
def cR_64 : jR := (jcr (jup (jcr (jup (jcr (jup cR_63 110 67 161) 162 0) 110 68 162) 163 0) 110 69 163) 164 0)
def cH_64 : jH := (jhn (jhI (jhI (jhI (jhn (jhI (jhI (jhI (jhn (jhI cH_63 161 1 114) 162) 162 0 97) 162 1 108) 162 2 108) 163) 163 0 109) 163 1 105) 163 2 110) 164)
set_option maxRecDepth 20000 in
theorem jco_64 {X : jX} {dd : Nat} {Q : Option Value → jS → Prop} (K : jEx X (dd + 5) jc_229 1174 [some (.ref 110)] [.ref 164, .ref 164, .ref 110] (164, cR_64, cH_64) Q) : jEx X (dd + 5) jc_229 1118 [some (.ref 110)] [.ref 161, .ref 161, .ref 110] (161, cR_63, cH_63) Q := by
  refine jx_next (pc := 1118) (pc' := 1119) rfl rfl ?_
  refine jx_next (pc := 1119) (pc' := 1121) rfl rfl ?_
  refine jx_castv (pc := 1121) (j := 1) (v := 114) rfl (jclo_ok (by omega) jks_161) (by decide) jss_161 (by decide) (by decide) ?_
  refine jx_putr (pc := 1122) rfl (jclo_ok (by omega) jks_110) ?_
  refine jx_next (pc := 1125) (pc' := 1126) rfl rfl ?_
  refine jx_next (pc := 1126) (pc' := 1127) rfl rfl ?_
  refine jx_newa (pc := 1127) (m := 162) rfl rfl (by decide) jks_162 ⟨by decide, by rw [jss_162]; decide⟩ ?_
  refine jx_next (pc := 1129) (pc' := 1130) rfl rfl ?_
  refine jx_next (pc := 1130) (pc' := 1131) rfl rfl ?_
  refine jx_next (pc := 1131) (pc' := 1133) rfl rfl ?_
  refine jx_castv (pc := 1133) (j := 0) (v := 97) rfl (jclo_ok (by omega) jks_162) (by decide) jss_162 (by decide) (by decide) ?_
  refine jx_next (pc := 1134) (pc' := 1135) rfl rfl ?_
  refine jx_next (pc := 1135) (pc' := 1136) rfl rfl ?_
  refine jx_next (pc := 1136) (pc' := 1138) rfl rfl ?_
  refine jx_castv (pc := 1138) (j := 1) (v := 108) rfl (jclo_ok (by omega) jks_162) (by decide) jss_162 (by decide) (by decide) ?_
  refine jx_next (pc := 1139) (pc' := 1140) rfl rfl ?_
  refine jx_next (pc := 1140) (pc' := 1141) rfl rfl ?_
  refine jx_next (pc := 1141) (pc' := 1143) rfl rfl ?_
  refine jx_castv (pc := 1143) (j := 2) (v := 108) rfl (jclo_ok (by omega) jks_162) (by decide) jss_162 (by decide) (by decide) ?_
  refine jx_putr (pc := 1144) rfl (jclo_ok (by omega) jks_110) ?_
  refine jx_next (pc := 1147) (pc' := 1148) rfl rfl ?_
  refine jx_next (pc := 1148) (pc' := 1149) rfl rfl ?_
  refine jx_newa (pc := 1149) (m := 163) rfl rfl (by decide) jks_163 ⟨by decide, by rw [jss_163]; decide⟩ ?_
  refine jx_next (pc := 1151) (pc' := 1152) rfl rfl ?_
  refine jx_next (pc := 1152) (pc' := 1153) rfl rfl ?_
  refine jx_next (pc := 1153) (pc' := 1155) rfl rfl ?_
  refine jx_castv (pc := 1155) (j := 0) (v := 109) rfl (jclo_ok (by omega) jks_163) (by decide) jss_163 (by decide) (by decide) ?_
  refine jx_next (pc := 1156) (pc' := 1157) rfl rfl ?_
  refine jx_next (pc := 1157) (pc' := 1158) rfl rfl ?_
  refine jx_next (pc := 1158) (pc' := 1160) rfl rfl ?_
  refine jx_castv (pc := 1160) (j := 1) (v := 105) rfl (jclo_ok (by omega) jks_163) (by decide) jss_163 (by decide) (by decide) ?_
  refine jx_next (pc := 1161) (pc' := 1162) rfl rfl ?_
  refine jx_next (pc := 1162) (pc' := 1163) rfl rfl ?_
  refine jx_next (pc := 1163) (pc' := 1165) rfl rfl ?_
  refine jx_castv (pc := 1165) (j := 2) (v := 110) rfl (jclo_ok (by omega) jks_163) (by decide) jss_163 (by decide) (by decide) ?_
  refine jx_putr (pc := 1166) rfl (jclo_ok (by omega) jks_110) ?_
  refine jx_next (pc := 1169) (pc' := 1170) rfl rfl ?_
  refine jx_next (pc := 1170) (pc' := 1171) rfl rfl ?_
  refine jx_newa (pc := 1171) (m := 164) rfl rfl (by decide) jks_164 ⟨by decide, by rw [jss_164]; decide⟩ ?_
  refine jx_next (pc := 1173) (pc' := 1174) rfl rfl ?_
  exact K
def cR_65 : jR := (jcr (jup (jcr (jup cR_64 110 70 164) 165 0) 110 71 165) 166 0)
def cH_65 : jH := (jhn (jhI (jhI (jhI (jhI (jhI (jhn (jhI (jhI (jhI cH_64 164 0 109) 164 1 97) 164 2 120) 165) 165 0 119) 165 1 101) 165 2 101) 165 3 107) 165 4 115) 166)
set_option maxRecDepth 20000 in
theorem jco_65 {X : jX} {dd : Nat} {Q : Option Value → jS → Prop} (K : jEx X (dd + 5) jc_229 1229 [some (.ref 110)] [.ref 166, .ref 166, .ref 110] (166, cR_65, cH_65) Q) : jEx X (dd + 5) jc_229 1174 [some (.ref 110)] [.ref 164, .ref 164, .ref 110] (164, cR_64, cH_64) Q := by
  refine jx_next (pc := 1174) (pc' := 1175) rfl rfl ?_
  refine jx_next (pc := 1175) (pc' := 1177) rfl rfl ?_
  refine jx_castv (pc := 1177) (j := 0) (v := 109) rfl (jclo_ok (by omega) jks_164) (by decide) jss_164 (by decide) (by decide) ?_
  refine jx_next (pc := 1178) (pc' := 1179) rfl rfl ?_
  refine jx_next (pc := 1179) (pc' := 1180) rfl rfl ?_
  refine jx_next (pc := 1180) (pc' := 1182) rfl rfl ?_
  refine jx_castv (pc := 1182) (j := 1) (v := 97) rfl (jclo_ok (by omega) jks_164) (by decide) jss_164 (by decide) (by decide) ?_
  refine jx_next (pc := 1183) (pc' := 1184) rfl rfl ?_
  refine jx_next (pc := 1184) (pc' := 1185) rfl rfl ?_
  refine jx_next (pc := 1185) (pc' := 1187) rfl rfl ?_
  refine jx_castv (pc := 1187) (j := 2) (v := 120) rfl (jclo_ok (by omega) jks_164) (by decide) jss_164 (by decide) (by decide) ?_
  refine jx_putr (pc := 1188) rfl (jclo_ok (by omega) jks_110) ?_
  refine jx_next (pc := 1191) (pc' := 1192) rfl rfl ?_
  refine jx_next (pc := 1192) (pc' := 1193) rfl rfl ?_
  refine jx_newa (pc := 1193) (m := 165) rfl rfl (by decide) jks_165 ⟨by decide, by rw [jss_165]; decide⟩ ?_
  refine jx_next (pc := 1195) (pc' := 1196) rfl rfl ?_
  refine jx_next (pc := 1196) (pc' := 1197) rfl rfl ?_
  refine jx_next (pc := 1197) (pc' := 1199) rfl rfl ?_
  refine jx_castv (pc := 1199) (j := 0) (v := 119) rfl (jclo_ok (by omega) jks_165) (by decide) jss_165 (by decide) (by decide) ?_
  refine jx_next (pc := 1200) (pc' := 1201) rfl rfl ?_
  refine jx_next (pc := 1201) (pc' := 1202) rfl rfl ?_
  refine jx_next (pc := 1202) (pc' := 1204) rfl rfl ?_
  refine jx_castv (pc := 1204) (j := 1) (v := 101) rfl (jclo_ok (by omega) jks_165) (by decide) jss_165 (by decide) (by decide) ?_
  refine jx_next (pc := 1205) (pc' := 1206) rfl rfl ?_
  refine jx_next (pc := 1206) (pc' := 1207) rfl rfl ?_
  refine jx_next (pc := 1207) (pc' := 1209) rfl rfl ?_
  refine jx_castv (pc := 1209) (j := 2) (v := 101) rfl (jclo_ok (by omega) jks_165) (by decide) jss_165 (by decide) (by decide) ?_
  refine jx_next (pc := 1210) (pc' := 1211) rfl rfl ?_
  refine jx_next (pc := 1211) (pc' := 1212) rfl rfl ?_
  refine jx_next (pc := 1212) (pc' := 1214) rfl rfl ?_
  refine jx_castv (pc := 1214) (j := 3) (v := 107) rfl (jclo_ok (by omega) jks_165) (by decide) jss_165 (by decide) (by decide) ?_
  refine jx_next (pc := 1215) (pc' := 1216) rfl rfl ?_
  refine jx_next (pc := 1216) (pc' := 1217) rfl rfl ?_
  refine jx_next (pc := 1217) (pc' := 1219) rfl rfl ?_
  refine jx_castv (pc := 1219) (j := 4) (v := 115) rfl (jclo_ok (by omega) jks_165) (by decide) jss_165 (by decide) (by decide) ?_
  refine jx_putr (pc := 1220) rfl (jclo_ok (by omega) jks_110) ?_
  refine jx_next (pc := 1223) (pc' := 1224) rfl rfl ?_
  refine jx_next (pc := 1224) (pc' := 1226) rfl rfl ?_
  refine jx_newa (pc := 1226) (m := 166) rfl rfl (by decide) jks_166 ⟨by decide, by rw [jss_166]; decide⟩ ?_
  refine jx_next (pc := 1228) (pc' := 1229) rfl rfl ?_
  exact K
def cR_66 : jR := (jup (jcr (jup cR_65 110 72 166) 167 0) 110 73 167)
def cH_66 : jH := (jhI (jhI (jhI (jhn (jhI (jhI (jhI (jhI (jhI (jhI cH_65 166 0 115) 166 1 108) 166 2 105) 166 3 103) 166 4 104) 166 5 116) 167) 167 0 106) 167 1 111) 167 2 121)
set_option maxRecDepth 20000 in
theorem jco_66 {X : jX} {dd : Nat} {Q : Option Value → jS → Prop} (K : jEx X (dd + 5) jc_229 1283 [some (.ref 110)] [] (167, cR_66, cH_66) Q) : jEx X (dd + 5) jc_229 1229 [some (.ref 110)] [.ref 166, .ref 166, .ref 110] (166, cR_65, cH_65) Q := by
  refine jx_next (pc := 1229) (pc' := 1230) rfl rfl ?_
  refine jx_next (pc := 1230) (pc' := 1232) rfl rfl ?_
  refine jx_castv (pc := 1232) (j := 0) (v := 115) rfl (jclo_ok (by omega) jks_166) (by decide) jss_166 (by decide) (by decide) ?_
  refine jx_next (pc := 1233) (pc' := 1234) rfl rfl ?_
  refine jx_next (pc := 1234) (pc' := 1235) rfl rfl ?_
  refine jx_next (pc := 1235) (pc' := 1237) rfl rfl ?_
  refine jx_castv (pc := 1237) (j := 1) (v := 108) rfl (jclo_ok (by omega) jks_166) (by decide) jss_166 (by decide) (by decide) ?_
  refine jx_next (pc := 1238) (pc' := 1239) rfl rfl ?_
  refine jx_next (pc := 1239) (pc' := 1240) rfl rfl ?_
  refine jx_next (pc := 1240) (pc' := 1242) rfl rfl ?_
  refine jx_castv (pc := 1242) (j := 2) (v := 105) rfl (jclo_ok (by omega) jks_166) (by decide) jss_166 (by decide) (by decide) ?_
  refine jx_next (pc := 1243) (pc' := 1244) rfl rfl ?_
  refine jx_next (pc := 1244) (pc' := 1245) rfl rfl ?_
  refine jx_next (pc := 1245) (pc' := 1247) rfl rfl ?_
  refine jx_castv (pc := 1247) (j := 3) (v := 103) rfl (jclo_ok (by omega) jks_166) (by decide) jss_166 (by decide) (by decide) ?_
  refine jx_next (pc := 1248) (pc' := 1249) rfl rfl ?_
  refine jx_next (pc := 1249) (pc' := 1250) rfl rfl ?_
  refine jx_next (pc := 1250) (pc' := 1252) rfl rfl ?_
  refine jx_castv (pc := 1252) (j := 4) (v := 104) rfl (jclo_ok (by omega) jks_166) (by decide) jss_166 (by decide) (by decide) ?_
  refine jx_next (pc := 1253) (pc' := 1254) rfl rfl ?_
  refine jx_next (pc := 1254) (pc' := 1255) rfl rfl ?_
  refine jx_next (pc := 1255) (pc' := 1257) rfl rfl ?_
  refine jx_castv (pc := 1257) (j := 5) (v := 116) rfl (jclo_ok (by omega) jks_166) (by decide) jss_166 (by decide) (by decide) ?_
  refine jx_putr (pc := 1258) rfl (jclo_ok (by omega) jks_110) ?_
  refine jx_next (pc := 1261) (pc' := 1262) rfl rfl ?_
  refine jx_next (pc := 1262) (pc' := 1263) rfl rfl ?_
  refine jx_newa (pc := 1263) (m := 167) rfl rfl (by decide) jks_167 ⟨by decide, by rw [jss_167]; decide⟩ ?_
  refine jx_next (pc := 1265) (pc' := 1266) rfl rfl ?_
  refine jx_next (pc := 1266) (pc' := 1267) rfl rfl ?_
  refine jx_next (pc := 1267) (pc' := 1269) rfl rfl ?_
  refine jx_castv (pc := 1269) (j := 0) (v := 106) rfl (jclo_ok (by omega) jks_167) (by decide) jss_167 (by decide) (by decide) ?_
  refine jx_next (pc := 1270) (pc' := 1271) rfl rfl ?_
  refine jx_next (pc := 1271) (pc' := 1272) rfl rfl ?_
  refine jx_next (pc := 1272) (pc' := 1274) rfl rfl ?_
  refine jx_castv (pc := 1274) (j := 1) (v := 111) rfl (jclo_ok (by omega) jks_167) (by decide) jss_167 (by decide) (by decide) ?_
  refine jx_next (pc := 1275) (pc' := 1276) rfl rfl ?_
  refine jx_next (pc := 1276) (pc' := 1277) rfl rfl ?_
  refine jx_next (pc := 1277) (pc' := 1279) rfl rfl ?_
  refine jx_castv (pc := 1279) (j := 2) (v := 121) rfl (jclo_ok (by omega) jks_167) (by decide) jss_167 (by decide) (by decide) ?_
  refine jx_putr (pc := 1280) rfl (jclo_ok (by omega) jks_110) ?_
  exact K
def cR_67 : jR := (jcr (jup (jcr cR_66 168 0) 110 74 168) 169 0)
def cH_67 : jH := (jhI (jhI (jhI (jhI (jhn (jhI (jhI (jhI (jhI (jhn cH_66 168) 168 0 115) 168 1 105) 168 2 122) 168 3 101) 169) 169 0 110) 169 1 117) 169 2 109) 169 3 98)
set_option maxRecDepth 20000 in
theorem jco_67 {X : jX} {dd : Nat} {Q : Option Value → jS → Prop} (K : jEx X (dd + 5) jc_229 1336 [some (.ref 110)] [.ref 169, .ref 169, .ref 110] (169, cR_67, cH_67) Q) : jEx X (dd + 5) jc_229 1283 [some (.ref 110)] [] (167, cR_66, cH_66) Q := by
  refine jx_next (pc := 1283) (pc' := 1284) rfl rfl ?_
  refine jx_next (pc := 1284) (pc' := 1285) rfl rfl ?_
  refine jx_newa (pc := 1285) (m := 168) rfl rfl (by decide) jks_168 ⟨by decide, by rw [jss_168]; decide⟩ ?_
  refine jx_next (pc := 1287) (pc' := 1288) rfl rfl ?_
  refine jx_next (pc := 1288) (pc' := 1289) rfl rfl ?_
  refine jx_next (pc := 1289) (pc' := 1291) rfl rfl ?_
  refine jx_castv (pc := 1291) (j := 0) (v := 115) rfl (jclo_ok (by omega) jks_168) (by decide) jss_168 (by decide) (by decide) ?_
  refine jx_next (pc := 1292) (pc' := 1293) rfl rfl ?_
  refine jx_next (pc := 1293) (pc' := 1294) rfl rfl ?_
  refine jx_next (pc := 1294) (pc' := 1296) rfl rfl ?_
  refine jx_castv (pc := 1296) (j := 1) (v := 105) rfl (jclo_ok (by omega) jks_168) (by decide) jss_168 (by decide) (by decide) ?_
  refine jx_next (pc := 1297) (pc' := 1298) rfl rfl ?_
  refine jx_next (pc := 1298) (pc' := 1299) rfl rfl ?_
  refine jx_next (pc := 1299) (pc' := 1301) rfl rfl ?_
  refine jx_castv (pc := 1301) (j := 2) (v := 122) rfl (jclo_ok (by omega) jks_168) (by decide) jss_168 (by decide) (by decide) ?_
  refine jx_next (pc := 1302) (pc' := 1303) rfl rfl ?_
  refine jx_next (pc := 1303) (pc' := 1304) rfl rfl ?_
  refine jx_next (pc := 1304) (pc' := 1306) rfl rfl ?_
  refine jx_castv (pc := 1306) (j := 3) (v := 101) rfl (jclo_ok (by omega) jks_168) (by decide) jss_168 (by decide) (by decide) ?_
  refine jx_putr (pc := 1307) rfl (jclo_ok (by omega) jks_110) ?_
  refine jx_next (pc := 1310) (pc' := 1311) rfl rfl ?_
  refine jx_next (pc := 1311) (pc' := 1313) rfl rfl ?_
  refine jx_newa (pc := 1313) (m := 169) rfl rfl (by decide) jks_169 ⟨by decide, by rw [jss_169]; decide⟩ ?_
  refine jx_next (pc := 1315) (pc' := 1316) rfl rfl ?_
  refine jx_next (pc := 1316) (pc' := 1317) rfl rfl ?_
  refine jx_next (pc := 1317) (pc' := 1319) rfl rfl ?_
  refine jx_castv (pc := 1319) (j := 0) (v := 110) rfl (jclo_ok (by omega) jks_169) (by decide) jss_169 (by decide) (by decide) ?_
  refine jx_next (pc := 1320) (pc' := 1321) rfl rfl ?_
  refine jx_next (pc := 1321) (pc' := 1322) rfl rfl ?_
  refine jx_next (pc := 1322) (pc' := 1324) rfl rfl ?_
  refine jx_castv (pc := 1324) (j := 1) (v := 117) rfl (jclo_ok (by omega) jks_169) (by decide) jss_169 (by decide) (by decide) ?_
  refine jx_next (pc := 1325) (pc' := 1326) rfl rfl ?_
  refine jx_next (pc := 1326) (pc' := 1327) rfl rfl ?_
  refine jx_next (pc := 1327) (pc' := 1329) rfl rfl ?_
  refine jx_castv (pc := 1329) (j := 2) (v := 109) rfl (jclo_ok (by omega) jks_169) (by decide) jss_169 (by decide) (by decide) ?_
  refine jx_next (pc := 1330) (pc' := 1331) rfl rfl ?_
  refine jx_next (pc := 1331) (pc' := 1332) rfl rfl ?_
  refine jx_next (pc := 1332) (pc' := 1334) rfl rfl ?_
  refine jx_castv (pc := 1334) (j := 3) (v := 98) rfl (jclo_ok (by omega) jks_169) (by decide) jss_169 (by decide) (by decide) ?_
  refine jx_next (pc := 1335) (pc' := 1336) rfl rfl ?_
  exact K
def cR_68 : jR := (jcr (jup (jcr (jup cR_67 110 75 169) 170 0) 110 76 170) 171 0)
def cH_68 : jH := (jhI (jhI (jhI (jhn (jhI (jhI (jhI (jhn (jhI (jhI cH_67 169 4 101) 169 5 114) 170) 170 0 104) 170 1 111) 170 2 119) 171) 171 0 99) 171 1 111) 171 2 109)
set_option maxRecDepth 20000 in
theorem jco_68 {X : jX} {dd : Nat} {Q : Option Value → jS → Prop} (K : jEx X (dd + 5) jc_229 1390 [some (.ref 110)] [.ref 171, .ref 171, .ref 110] (171, cR_68, cH_68) Q) : jEx X (dd + 5) jc_229 1336 [some (.ref 110)] [.ref 169, .ref 169, .ref 110] (169, cR_67, cH_67) Q := by
  refine jx_next (pc := 1336) (pc' := 1337) rfl rfl ?_
  refine jx_next (pc := 1337) (pc' := 1339) rfl rfl ?_
  refine jx_castv (pc := 1339) (j := 4) (v := 101) rfl (jclo_ok (by omega) jks_169) (by decide) jss_169 (by decide) (by decide) ?_
  refine jx_next (pc := 1340) (pc' := 1341) rfl rfl ?_
  refine jx_next (pc := 1341) (pc' := 1342) rfl rfl ?_
  refine jx_next (pc := 1342) (pc' := 1344) rfl rfl ?_
  refine jx_castv (pc := 1344) (j := 5) (v := 114) rfl (jclo_ok (by omega) jks_169) (by decide) jss_169 (by decide) (by decide) ?_
  refine jx_putr (pc := 1345) rfl (jclo_ok (by omega) jks_110) ?_
  refine jx_next (pc := 1348) (pc' := 1349) rfl rfl ?_
  refine jx_next (pc := 1349) (pc' := 1350) rfl rfl ?_
  refine jx_newa (pc := 1350) (m := 170) rfl rfl (by decide) jks_170 ⟨by decide, by rw [jss_170]; decide⟩ ?_
  refine jx_next (pc := 1352) (pc' := 1353) rfl rfl ?_
  refine jx_next (pc := 1353) (pc' := 1354) rfl rfl ?_
  refine jx_next (pc := 1354) (pc' := 1356) rfl rfl ?_
  refine jx_castv (pc := 1356) (j := 0) (v := 104) rfl (jclo_ok (by omega) jks_170) (by decide) jss_170 (by decide) (by decide) ?_
  refine jx_next (pc := 1357) (pc' := 1358) rfl rfl ?_
  refine jx_next (pc := 1358) (pc' := 1359) rfl rfl ?_
  refine jx_next (pc := 1359) (pc' := 1361) rfl rfl ?_
  refine jx_castv (pc := 1361) (j := 1) (v := 111) rfl (jclo_ok (by omega) jks_170) (by decide) jss_170 (by decide) (by decide) ?_
  refine jx_next (pc := 1362) (pc' := 1363) rfl rfl ?_
  refine jx_next (pc := 1363) (pc' := 1364) rfl rfl ?_
  refine jx_next (pc := 1364) (pc' := 1366) rfl rfl ?_
  refine jx_castv (pc := 1366) (j := 2) (v := 119) rfl (jclo_ok (by omega) jks_170) (by decide) jss_170 (by decide) (by decide) ?_
  refine jx_putr (pc := 1367) rfl (jclo_ok (by omega) jks_110) ?_
  refine jx_next (pc := 1370) (pc' := 1371) rfl rfl ?_
  refine jx_next (pc := 1371) (pc' := 1372) rfl rfl ?_
  refine jx_newa (pc := 1372) (m := 171) rfl rfl (by decide) jks_171 ⟨by decide, by rw [jss_171]; decide⟩ ?_
  refine jx_next (pc := 1374) (pc' := 1375) rfl rfl ?_
  refine jx_next (pc := 1375) (pc' := 1376) rfl rfl ?_
  refine jx_next (pc := 1376) (pc' := 1378) rfl rfl ?_
  refine jx_castv (pc := 1378) (j := 0) (v := 99) rfl (jclo_ok (by omega) jks_171) (by decide) jss_171 (by decide) (by decide) ?_
  refine jx_next (pc := 1379) (pc' := 1380) rfl rfl ?_
  refine jx_next (pc := 1380) (pc' := 1381) rfl rfl ?_
  refine jx_next (pc := 1381) (pc' := 1383) rfl rfl ?_
  refine jx_castv (pc := 1383) (j := 1) (v := 111) rfl (jclo_ok (by omega) jks_171) (by decide) jss_171 (by decide) (by decide) ?_
  refine jx_next (pc := 1384) (pc' := 1385) rfl rfl ?_
  refine jx_next (pc := 1385) (pc' := 1386) rfl rfl ?_
  refine jx_next (pc := 1386) (pc' := 1388) rfl rfl ?_
  refine jx_castv (pc := 1388) (j := 2) (v := 109) rfl (jclo_ok (by omega) jks_171) (by decide) jss_171 (by decide) (by decide) ?_
  refine jx_next (pc := 1389) (pc' := 1390) rfl rfl ?_
  exact K
def cR_69 : jR := (jup (jcr (jup (jcr (jup (jcr (jup cR_68 110 77 171) 172 0) 110 78 172) 173 0) 110 79 173) 174 0) 110 81 174)
def cH_69 : jH := (jhn (jhn (jhI (jhI (jhI (jhI (jhI (jhn (jhI (jhI cH_68 171 3 101) 171 4 115) 172) 172 0 112) 172 1 117) 172 2 108) 172 3 108) 172 4 115) 173) 174)
set_option maxRecDepth 20000 in
theorem jco_69 {X : jX} {dd : Nat} {Q : Option Value → jS → Prop} (K : jEx X (dd + 5) jc_229 1452 [some (.ref 110)] [] (174, cR_69, cH_69) Q) : jEx X (dd + 5) jc_229 1390 [some (.ref 110)] [.ref 171, .ref 171, .ref 110] (171, cR_68, cH_68) Q := by
  refine jx_next (pc := 1390) (pc' := 1391) rfl rfl ?_
  refine jx_next (pc := 1391) (pc' := 1393) rfl rfl ?_
  refine jx_castv (pc := 1393) (j := 3) (v := 101) rfl (jclo_ok (by omega) jks_171) (by decide) jss_171 (by decide) (by decide) ?_
  refine jx_next (pc := 1394) (pc' := 1395) rfl rfl ?_
  refine jx_next (pc := 1395) (pc' := 1396) rfl rfl ?_
  refine jx_next (pc := 1396) (pc' := 1398) rfl rfl ?_
  refine jx_castv (pc := 1398) (j := 4) (v := 115) rfl (jclo_ok (by omega) jks_171) (by decide) jss_171 (by decide) (by decide) ?_
  refine jx_putr (pc := 1399) rfl (jclo_ok (by omega) jks_110) ?_
  refine jx_next (pc := 1402) (pc' := 1403) rfl rfl ?_
  refine jx_next (pc := 1403) (pc' := 1404) rfl rfl ?_
  refine jx_newa (pc := 1404) (m := 172) rfl rfl (by decide) jks_172 ⟨by decide, by rw [jss_172]; decide⟩ ?_
  refine jx_next (pc := 1406) (pc' := 1407) rfl rfl ?_
  refine jx_next (pc := 1407) (pc' := 1408) rfl rfl ?_
  refine jx_next (pc := 1408) (pc' := 1410) rfl rfl ?_
  refine jx_castv (pc := 1410) (j := 0) (v := 112) rfl (jclo_ok (by omega) jks_172) (by decide) jss_172 (by decide) (by decide) ?_
  refine jx_next (pc := 1411) (pc' := 1412) rfl rfl ?_
  refine jx_next (pc := 1412) (pc' := 1413) rfl rfl ?_
  refine jx_next (pc := 1413) (pc' := 1415) rfl rfl ?_
  refine jx_castv (pc := 1415) (j := 1) (v := 117) rfl (jclo_ok (by omega) jks_172) (by decide) jss_172 (by decide) (by decide) ?_
  refine jx_next (pc := 1416) (pc' := 1417) rfl rfl ?_
  refine jx_next (pc := 1417) (pc' := 1418) rfl rfl ?_
  refine jx_next (pc := 1418) (pc' := 1420) rfl rfl ?_
  refine jx_castv (pc := 1420) (j := 2) (v := 108) rfl (jclo_ok (by omega) jks_172) (by decide) jss_172 (by decide) (by decide) ?_
  refine jx_next (pc := 1421) (pc' := 1422) rfl rfl ?_
  refine jx_next (pc := 1422) (pc' := 1423) rfl rfl ?_
  refine jx_next (pc := 1423) (pc' := 1425) rfl rfl ?_
  refine jx_castv (pc := 1425) (j := 3) (v := 108) rfl (jclo_ok (by omega) jks_172) (by decide) jss_172 (by decide) (by decide) ?_
  refine jx_next (pc := 1426) (pc' := 1427) rfl rfl ?_
  refine jx_next (pc := 1427) (pc' := 1428) rfl rfl ?_
  refine jx_next (pc := 1428) (pc' := 1430) rfl rfl ?_
  refine jx_castv (pc := 1430) (j := 4) (v := 115) rfl (jclo_ok (by omega) jks_172) (by decide) jss_172 (by decide) (by decide) ?_
  refine jx_putr (pc := 1431) rfl (jclo_ok (by omega) jks_110) ?_
  refine jx_next (pc := 1434) (pc' := 1435) rfl rfl ?_
  refine jx_next (pc := 1435) (pc' := 1438) rfl rfl ?_
  refine jx_newa (pc := 1438) (m := 173) rfl rfl (by decide) jks_173 ⟨by decide, by rw [jss_173]; decide⟩ ?_
  refine jx_putr (pc := 1440) rfl (jclo_ok (by omega) jks_110) ?_
  refine jx_next (pc := 1443) (pc' := 1444) rfl rfl ?_
  refine jx_next (pc := 1444) (pc' := 1447) rfl rfl ?_
  refine jx_newa (pc := 1447) (m := 174) rfl rfl (by decide) jks_174 ⟨by decide, by rw [jss_174]; decide⟩ ?_
  refine jx_putr (pc := 1449) rfl (jclo_ok (by omega) jks_110) ?_
  exact K
def cR_70 : jR := (jup (jcr (jup (jcr cR_69 175 0) 110 85 175) 176 0) 110 89 176)
def cH_70 : jH := (jhI (jhn (jhn cH_69 175) 176) 148 1 (-1))
set_option maxRecDepth 20000 in
theorem jco_70 {X : jX} {dd : Nat} {Q : Option Value → jS → Prop} (K : jEx X (dd + 5) jc_229 1476 [some (.ref 110)] [] (176, cR_70, cH_70) Q) : jEx X (dd + 5) jc_229 1452 [some (.ref 110)] [] (174, cR_69, cH_69) Q := by
  refine jx_next (pc := 1452) (pc' := 1453) rfl rfl ?_
  refine jx_next (pc := 1453) (pc' := 1456) rfl rfl ?_
  refine jx_newa (pc := 1456) (m := 175) rfl rfl (by decide) jks_175 ⟨by decide, by rw [jss_175]; decide⟩ ?_
  refine jx_putr (pc := 1458) rfl (jclo_ok (by omega) jks_110) ?_
  refine jx_next (pc := 1461) (pc' := 1462) rfl rfl ?_
  refine jx_next (pc := 1462) (pc' := 1464) rfl rfl ?_
  refine jx_newa (pc := 1464) (m := 176) rfl rfl (by decide) jks_176 ⟨by decide, by rw [jss_176]; decide⟩ ?_
  refine jx_putr (pc := 1466) rfl (jclo_ok (by omega) jks_110) ?_
  refine jx_next (pc := 1469) (pc' := 1470) rfl rfl ?_
  refine jx_getr2 (r := 148) (pc := 1470) rfl (jclo_ok (by omega) jks_110) rfl ?_
  refine jx_next (pc := 1473) (pc' := 1474) rfl rfl ?_
  refine jx_next (pc := 1474) (pc' := 1475) rfl rfl ?_
  refine jx_iastv (pc := 1475) (j := 1) rfl (jclo_ok (by omega) jks_148) (by decide) jss_148 (by decide) ?_
  exact K
def cR_71 : jR := cR_70
def cH_71 : jH := cH_70
set_option maxRecDepth 20000 in
theorem jco_71 {X : jX} {dd : Nat} {Q : Option Value → jS → Prop} (K : jEx X (dd + 6) jlaw 15 [some (.ref 1032), some (.ref 1), none, none] [.ref 110] (176, cR_71, cH_71) Q) : jEx X (dd + 6) jlaw 0 [some (.ref 1032), none, none, none] [] (0, (fun _ _ => 0), ((fun _ _ => 0), (fun _ _ => 0))) Q := by
  refine jx_newo (pc := 0) (m := 1) rfl rfl (by decide) jks_1 ?_
  refine jx_next (pc := 3) (pc' := 4) rfl rfl ?_
  refine jx_callp (pc := 4) (o := 1) (rest := [.ref 1]) rfl ⟨by decide, by decide⟩ rfl (jclo_ok (by omega) jks_1) (Nat.le_of_ble_eq_true rfl) ?_
  refine jCa_of (es := jc_0) (pl := [some (.ref 1)]) (M := jm_0) rfl rfl rfl rfl ?_
  refine jco_4 ?_
  refine jco_8 ?_
  refine jco_40 ?_
  refine jco_43 ?_
  refine jx_ret (pc := 177) rfl rfl ?_
  refine jx_stan (pc := 7) (p2 := [some (.ref 1032), some (.ref 1), none, none]) rfl (jlt rfl) rfl ?_
  refine jx_newo (pc := 8) (m := 110) rfl rfl (by decide) jks_110 ?_
  refine jx_next (pc := 11) (pc' := 12) rfl rfl ?_
  refine jx_callp (pc := 12) (o := 110) (rest := [.ref 110]) rfl ⟨by decide, by decide⟩ rfl (jclo_ok (by omega) jks_110) (Nat.le_of_ble_eq_true rfl) ?_
  refine jCa_of (es := jc_229) (pl := [some (.ref 110)]) (M := jm_229) rfl rfl rfl rfl ?_
  refine jco_44 ?_
  refine jco_45 ?_
  refine jco_46 ?_
  refine jco_47 ?_
  refine jco_48 ?_
  refine jco_49 ?_
  refine jco_50 ?_
  refine jco_51 ?_
  refine jco_52 ?_
  refine jco_53 ?_
  refine jco_54 ?_
  refine jco_55 ?_
  refine jco_56 ?_
  refine jco_57 ?_
  refine jco_58 ?_
  refine jco_59 ?_
  refine jco_60 ?_
  refine jco_61 ?_
  refine jco_62 ?_
  refine jco_63 ?_
  refine jco_64 ?_
  refine jco_65 ?_
  refine jco_66 ?_
  refine jco_67 ?_
  refine jco_68 ?_
  refine jco_69 ?_
  refine jco_70 ?_
  refine jx_ret (pc := 1476) rfl rfl ?_
  exact K
theorem jco_all {X : jX} {dd : Nat} {Q : Option Value → jS → Prop} (K : jEx X (dd + 6) jlaw 18 [some (.ref 1032), some (.ref 1), some (.ref 110), some (.int 0)] [] (176, cR_71, cH_71) Q) : jEx X (dd + 6) jlaw 0 [some (.ref 1032), none, none, none] [] (0, (fun _ _ => 0), ((fun _ _ => 0), (fun _ _ => 0))) Q := by
  refine jco_71 ?_
  refine jx_stan (pc := 15) (p2 := [some (.ref 1032), some (.ref 1), some (.ref 110), none]) rfl (jlt rfl) rfl ?_
  refine jx_next (pc := 16) (pc' := 17) rfl rfl ?_
  refine jx_stin (pc := 17) (p2 := [some (.ref 1032), some (.ref 1), some (.ref 110), some (.int 0)]) rfl (jlt rfl) rfl ?_
  exact K
