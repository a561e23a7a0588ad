/-! Each method is checked -/
theorem jk_0 : jck jT (jprog.map jsig) 0 jp_0 jq_0 = true := by decide +kernel
theorem jk_1 : jck jT (jprog.map jsig) 12 jp_1 jq_1 = true := by decide +kernel
theorem jk_2 : jck jT (jprog.map jsig) 24 jp_2 jq_2 = true := by decide +kernel
theorem jk_3 : jck jT (jprog.map jsig) 36 jp_3 jq_3 = true := by decide +kernel
theorem jk_4 : jck jT (jprog.map jsig) 48 jp_4 jq_4 = true := by decide +kernel
theorem jk_5 : jck jT (jprog.map jsig) 60 jp_5 jq_5 = true := by decide +kernel
theorem jk_6 : jck jT (jprog.map jsig) 72 jp_6 jq_6 = true := by decide +kernel
theorem jk_7 : jck jT (jprog.map jsig) 84 jp_7 jq_7 = true := by decide +kernel
theorem jk_8 : jck jT (jprog.map jsig) 96 jp_8 jq_8 = true := by decide +kernel
theorem jk_9 : jck jT (jprog.map jsig) 108 jp_9 jq_9 = true := by decide +kernel
theorem jk_10 : jck jT (jprog.map jsig) 120 jp_10 jq_10 = true := by decide +kernel
theorem jk_11 : jck jT (jprog.map jsig) 132 jp_11 jq_11 = true := by decide +kernel
theorem jk_12 : jck jT (jprog.map jsig) 144 jp_12 jq_12 = true := by decide +kernel
theorem jk_13 : jck jT (jprog.map jsig) 156 jp_13 jq_13 = true := by decide +kernel
theorem jk_14 : jck jT (jprog.map jsig) 168 jp_14 jq_14 = true := by decide +kernel
theorem jk_15 : jck jT (jprog.map jsig) 180 jp_15 jq_15 = true := by decide +kernel
theorem jk_16 : jck jT (jprog.map jsig) 192 jp_16 jq_16 = true := by decide +kernel
theorem jk_17 : jck jT (jprog.map jsig) 204 jp_17 jq_17 = true := by decide +kernel
theorem jb_206_0 : jc_206_0.all (jfE jT (jprog.map jsig) 11 prog_14_method_14_code false (some .boolean)) = true := by decide +kernel
theorem jb_206_1 : jc_206_1.all (jfE jT (jprog.map jsig) 11 prog_14_method_14_code false (some .boolean)) = true := by decide +kernel
theorem jb_206_2 : jc_206_2.all (jfE jT (jprog.map jsig) 11 prog_14_method_14_code false (some .boolean)) = true := by decide +kernel
theorem jh_206 : jfM jT (jprog.map jsig) 206 (1137, 132, 1136, 43) (⟨"AndGuestModel", "isOwnHere", "()Z"⟩, prog_14_method_14_code, 2, (some .boolean), (0, false, 22), []) = true := by decide +kernel
theorem jk_18 : jck jT (jprog.map jsig) 206 jp_18 jq_18 = true := jck_one (jfM_big jh_206 (jall_app jb_206_0 (jall_app jb_206_1 jb_206_2)))
theorem jk_19 : jck jT (jprog.map jsig) 207 jp_19 jq_19 = true := by decide +kernel
theorem jk_20 : jck jT (jprog.map jsig) 219 jp_20 jq_20 = true := by decide +kernel
theorem jb_222_0 : jc_222_0.all (jfE jT (jprog.map jsig) 11 prog_14_method_109_code false (some .boolean)) = true := by decide +kernel
theorem jb_222_1 : jc_222_1.all (jfE jT (jprog.map jsig) 11 prog_14_method_109_code false (some .boolean)) = true := by decide +kernel
theorem jb_222_2 : jc_222_2.all (jfE jT (jprog.map jsig) 11 prog_14_method_109_code false (some .boolean)) = true := by decide +kernel
theorem jh_222 : jfM jT (jprog.map jsig) 222 (1187, 132, 1186, 59) (⟨"AndGuestModel", "qGoesOn", "()Z"⟩, prog_14_method_109_code, 2, (some .boolean), (0, false, 22), []) = true := by decide +kernel
theorem jk_21 : jck jT (jprog.map jsig) 222 jp_21 jq_21 = true := jck_one (jfM_big jh_222 (jall_app jb_222_0 (jall_app jb_222_1 jb_222_2)))
theorem jk_22 : jck jT (jprog.map jsig) 223 jp_22 jq_22 = true := by decide +kernel
theorem jb_227_0 : jc_227_0.all (jfE jT (jprog.map jsig) 11 prog_14_method_27_code false none) = true := by decide +kernel
theorem jb_227_1 : jc_227_1.all (jfE jT (jprog.map jsig) 11 prog_14_method_27_code false none) = true := by decide +kernel
theorem jb_227_2 : jc_227_2.all (jfE jT (jprog.map jsig) 11 prog_14_method_27_code false none) = true := by decide +kernel
theorem jh_227 : jfM jT (jprog.map jsig) 227 (1202, 132, 1201, 63) (⟨"AndGuestModel", "stands", "()V"⟩, prog_14_method_27_code, 2, none, (0, false, 22), []) = true := by decide +kernel
theorem jk_23 : jck jT (jprog.map jsig) 227 jp_23 jq_23 = true := jck_one (jfM_big jh_227 (jall_app jb_227_0 (jall_app jb_227_1 jb_227_2)))
theorem jk_24 : jck jT (jprog.map jsig) 228 jp_24 jq_24 = true := by decide +kernel
theorem jb_229_0 : jc_229_0.all (jfE jT (jprog.map jsig) 11 prog_14_method_29_code true none) = true := by decide +kernel
theorem jb_229_1 : jc_229_1.all (jfE jT (jprog.map jsig) 11 prog_14_method_29_code true none) = true := by decide +kernel
theorem jb_229_2 : jc_229_2.all (jfE jT (jprog.map jsig) 11 prog_14_method_29_code true none) = true := by decide +kernel
theorem jb_229_3 : jc_229_3.all (jfE jT (jprog.map jsig) 11 prog_14_method_29_code true none) = true := by decide +kernel
theorem jb_229_4 : jc_229_4.all (jfE jT (jprog.map jsig) 11 prog_14_method_29_code true none) = true := by decide +kernel
theorem jb_229_5 : jc_229_5.all (jfE jT (jprog.map jsig) 11 prog_14_method_29_code true none) = true := by decide +kernel
theorem jb_229_6 : jc_229_6.all (jfE jT (jprog.map jsig) 11 prog_14_method_29_code true none) = true := by decide +kernel
theorem jb_229_7 : jc_229_7.all (jfE jT (jprog.map jsig) 11 prog_14_method_29_code true none) = true := by decide +kernel
theorem jb_229_8 : jc_229_8.all (jfE jT (jprog.map jsig) 11 prog_14_method_29_code true none) = true := by decide +kernel
theorem jb_229_9 : jc_229_9.all (jfE jT (jprog.map jsig) 11 prog_14_method_29_code true none) = true := by decide +kernel
theorem jb_229_10 : jc_229_10.all (jfE jT (jprog.map jsig) 11 prog_14_method_29_code true none) = true := by decide +kernel
theorem jb_229_11 : jc_229_11.all (jfE jT (jprog.map jsig) 11 prog_14_method_29_code true none) = true := by decide +kernel
theorem jb_229_12 : jc_229_12.all (jfE jT (jprog.map jsig) 11 prog_14_method_29_code true none) = true := by decide +kernel
theorem jb_229_13 : jc_229_13.all (jfE jT (jprog.map jsig) 11 prog_14_method_29_code true none) = true := by decide +kernel
theorem jb_229_14 : jc_229_14.all (jfE jT (jprog.map jsig) 11 prog_14_method_29_code true none) = true := by decide +kernel
theorem jh_229 : jfM jT (jprog.map jsig) 229 (1210, 132, 1209, 0) (⟨"AndGuestModel", "<init>", "()V"⟩, prog_14_method_29_code, 1, none, (0, false, 23), []) = true := by decide +kernel
theorem jk_25 : jck jT (jprog.map jsig) 229 jp_25 jq_25 = true := jck_one (jfM_big jh_229 (jall_app jb_229_0 (jall_app jb_229_1 (jall_app jb_229_2 (jall_app jb_229_3 (jall_app jb_229_4 (jall_app jb_229_5 (jall_app jb_229_6 (jall_app jb_229_7 (jall_app jb_229_8 (jall_app jb_229_9 (jall_app jb_229_10 (jall_app jb_229_11 (jall_app jb_229_12 (jall_app jb_229_13 jb_229_14)))))))))))))))
theorem jk_26 : jck jT (jprog.map jsig) 230 jp_26 jq_26 = true := by decide +kernel
theorem jk_27 : jck jT (jprog.map jsig) 242 jp_27 jq_27 = true := by decide +kernel
theorem jk_28 : jck jT (jprog.map jsig) 254 jp_28 jq_28 = true := by decide +kernel
theorem jk_29 : jck jT (jprog.map jsig) 266 jp_29 jq_29 = true := by decide +kernel
theorem jk_30 : jck jT (jprog.map jsig) 278 jp_30 jq_30 = true := by decide +kernel
theorem jk_31 : jck jT (jprog.map jsig) 290 jp_31 jq_31 = true := by decide +kernel
theorem jk_32 : jck jT (jprog.map jsig) 302 jp_32 jq_32 = true := by decide +kernel
theorem jk_33 : jck jT (jprog.map jsig) 314 jp_33 jq_33 = true := by decide +kernel
theorem jprog_ok : ∀ M ∈ jprog, jMok (jprog.map jsig) M := by
  have h : jck jT (jprog.map jsig) 0 jprog (jq_0 ++ (jq_1 ++ (jq_2 ++ (jq_3 ++ (jq_4 ++ (jq_5 ++ (jq_6 ++ (jq_7 ++ (jq_8 ++ (jq_9 ++ (jq_10 ++ (jq_11 ++ (jq_12 ++ (jq_13 ++ (jq_14 ++ (jq_15 ++ (jq_16 ++ (jq_17 ++ (jq_18 ++ (jq_19 ++ (jq_20 ++ (jq_21 ++ (jq_22 ++ (jq_23 ++ (jq_24 ++ (jq_25 ++ (jq_26 ++ (jq_27 ++ (jq_28 ++ (jq_29 ++ (jq_30 ++ (jq_31 ++ (jq_32 ++ (jq_33)))))))))))))))))))))))))))))))))) = true := jck_app jk_0 (jck_app jk_1 (jck_app jk_2 (jck_app jk_3 (jck_app jk_4 (jck_app jk_5 (jck_app jk_6 (jck_app jk_7 (jck_app jk_8 (jck_app jk_9 (jck_app jk_10 (jck_app jk_11 (jck_app jk_12 (jck_app jk_13 (jck_app jk_14 (jck_app jk_15 (jck_app jk_16 (jck_app jk_17 (jck_app jk_18 (jck_app jk_19 (jck_app jk_20 (jck_app jk_21 (jck_app jk_22 (jck_app jk_23 (jck_app jk_24 (jck_app jk_25 (jck_app jk_26 (jck_app jk_27 (jck_app jk_28 (jck_app jk_29 (jck_app jk_30 (jck_app jk_31 (jck_app jk_32 jk_33))))))))))))))))))))))))))))))))
  exact jck_ok jT_ok jsg_ok h (fun j M hM => by rw [Nat.zero_add, List.getElem?_map, hM]; rfl)
theorem jlk_0 : jlaw_0.all (jfE jT (jprog.map jsig) 15 code false (some .boolean)) = true := by decide +kernel
theorem jlk_1 : jlaw_1.all (jfE jT (jprog.map jsig) 15 code false (some .boolean)) = true := by decide +kernel
theorem jlk_2 : jlaw_2.all (jfE jT (jprog.map jsig) 15 code false (some .boolean)) = true := by decide +kernel
theorem jlk_3 : jlaw_3.all (jfE jT (jprog.map jsig) 15 code false (some .boolean)) = true := by decide +kernel
theorem jlk_4 : jlaw_4.all (jfE jT (jprog.map jsig) 15 code false (some .boolean)) = true := by decide +kernel
theorem jlk_5 : jlaw_5.all (jfE jT (jprog.map jsig) 15 code false (some .boolean)) = true := by decide +kernel
theorem jlk_6 : jlaw_6.all (jfE jT (jprog.map jsig) 15 code false (some .boolean)) = true := by decide +kernel
theorem jlk_7 : jlaw_7.all (jfE jT (jprog.map jsig) 15 code false (some .boolean)) = true := by decide +kernel
theorem jlk_8 : jlaw_8.all (jfE jT (jprog.map jsig) 15 code false (some .boolean)) = true := by decide +kernel
theorem jlaw_k : jlaw.all (jfE jT (jprog.map jsig) 15 code false (some .boolean)) = true := jall_app jlk_0 (jall_app jlk_1 (jall_app jlk_2 (jall_app jlk_3 (jall_app jlk_4 (jall_app jlk_5 (jall_app jlk_6 (jall_app jlk_7 jlk_8)))))))
theorem jlaw_ok : jlaw.all (jokE (jprog.map jsig) "AndGuestLaw" code false (some .boolean)) = true := by
  refine List.all_eq_true.mpr fun e he => ?_
  have := List.all_eq_true.mp jlaw_k e he
  simp only [jfE, Bool.and_eq_true] at this
  simp only [jokE, Bool.and_eq_true]
  exact ⟨this.1, jfI_ok (ow := 15) jT_ok jsg_ok this.2⟩
