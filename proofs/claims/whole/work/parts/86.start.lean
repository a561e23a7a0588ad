/-! how both begin -/
theorem st_q : (List.range 20).all (fun i => jR0 18 i == 19 + 3 * i) = true := by decide +kernel
theorem st_q1 {i : Nat} (h : i < 20) : jR0 18 i = 19 + 3 * i := by
  have := List.all_eq_true.mp st_q i (List.mem_range.mpr h)
  exact eq_of_beq this
theorem st_q0 : jq0 (jR0 18) := by
  refine ⟨fun i hi => ?_, fun i j hi hj e => ?_⟩
  · rw [st_q1 hi]; omega
  · rw [st_q1 hi, st_q1 hj] at e; omega
theorem st_cl : (List.range 20).all (fun m => jcl 176 (19 + 3 * m) == 6) = true := by decide +kernel
theorem st_ok {p d : Nat} {q : Nat → Nat} {h : jH} (I : jInv p d q h) : jOK p d q := by
  obtain ⟨hpd, ⟨q1, -⟩, -⟩ := I
  have hq : ∀ k, k < 20 → jcl 176 (q k) = 6 := fun k hk => by
    obtain ⟨a, b, c⟩ := q1 k hk
    obtain ⟨m, hm⟩ : ∃ m, q k = 19 + 3 * m := ⟨(q k - 19) / 3, by omega⟩
    rw [hm]
    exact eq_of_beq (List.all_eq_true.mp st_cl m (List.mem_range.mpr (by omega)))
  unfold iPD at hpd
  rcases hpd with ⟨rfl, rfl⟩ | ⟨rfl, rfl⟩
  · exact ⟨by decide +kernel, by decide +kernel, hq⟩
  · exact ⟨by decide +kernel, by decide +kernel, hq⟩
theorem st_r : jR0 1 11 = 98 ∧ jR0 79 4 = 84 := by decide +kernel
theorem st_R : jRf 84 98 (jR0 18) = jR0 := by
  funext o k
  unfold jRf jup
  by_cases z1 : o = 1 ∧ k = 11
  · obtain ⟨rfl, rfl⟩ := z1
    simp [st_r.1]
  · by_cases z2 : o = 79 ∧ k = 4
    · obtain ⟨rfl, rfl⟩ := z2
      simp [st_r.2]
    · by_cases z3 : o = 18
      · subst z3
        simp
      · simp [z1, z2, z3]
set_option maxRecDepth 200000 in
theorem st_cR : cR_71 = jR0 := rfl
def stZ : List (Nat × Nat) := [(2, 1), (110, 1), (4, 1), (110, 90), (1, 14), (110, 7), (84, 0), (84, 1), (138, 3), (138, 4), (84, 3), (84, 4), (84, 5), (84, 6), (140, 4), (140, 5), (140, 6), (140, 7), (1, 12), (110, 48), (93, 2), (11, 0), (148, 0), (17, 1), (110, 56), (110, 57)]
theorem st_z : (stZ.all (fun x => decide (cH_71.1 x.1 x.2 = jz 0))) = true := by decide +kernel
theorem st_z1 {o k : Nat} (h : (o, k) ∈ stZ) : cH_71.1 o k = jz 0 := of_decide_eq_true (List.all_eq_true.mp st_z (o, k) h)
theorem st_r8 : ((List.range 8).all (fun k => decide (cH_71.1 90 k = jz 0 ∧ cH_71.1 91 k = jz 0 ∧ cH_71.1 92 k = jz 0 ∧ cH_71.1 142 (8 + k) = jz 0 ∧ cH_71.1 143 (8 + k) = jz 0 ∧ cH_71.1 12 k = jz 0 ∧ cH_71.1 13 k = jz 0 ∧ cH_71.1 148 (2 + 2 * k) = jz 0 ∧ cH_71.1 148 (2 + 2 * k + 1) = jz 0))) = true := by decide +kernel
theorem st_m : cH_71.1 1 15 = jz (-1) ∧ cH_71.1 110 8 = jz (-1) ∧ cH_71.1 11 1 = jz (-1) ∧ cH_71.1 148 1 = jz (-1) ∧ cH_71.1 145 1 = jz (-1) ∧ cH_71.1 1 13 = jz 1 ∧ cH_71.2 110 58 = jw 1 := by decide +kernel
theorem st_97 : ((List.range 6).all (fun k => decide (cH_71.1 97 k = cH_71.1 112 k))) = true := by decide +kernel
theorem st_w : (jwtab.all (fun x => (List.range x.2.length).all (fun k => decide (cH_71.1 x.1 k = jz (x.2.getD k 0))))) = true := by decide +kernel
theorem st_I : jInv 84 98 (jR0 18) cH_71 := by
  obtain ⟨m1, m2, m3, m4, m5, m6, m7⟩ := st_m
  have z : ∀ {o k : Nat}, (o, k) ∈ stZ → cH_71.1 o k = jz 0 := st_z1
  have r8 : ∀ k, k < 8 → _ := fun k hk => of_decide_eq_true (List.all_eq_true.mp st_r8 k (List.mem_range.mpr hk))
  obtain ⟨D, hD⟩ : ∃ D : jD, D = fun _ _ => 0 := ⟨_, rfl⟩
  have d0 : ∀ a k, D a k = 0 := fun a k => by rw [hD]
  obtain ⟨S, hS⟩ : ∃ S : jD, S = fun a k => if a = 0 ∧ k = 2 then -1 else 0 := ⟨_, rfl⟩
  have s02 : S 0 2 = -1 := by rw [hS]; rfl
  have s01 : S 0 1 = 0 := by rw [hS]; rfl
  have s1 : ∀ k, S 1 k = 0 := fun k => by rw [hS]; rfl
  have s2 : ∀ k, S 2 k = 0 := fun k => by rw [hS]; rfl
  refine ⟨Or.inl ⟨rfl, rfl⟩, st_q0, fun x hx k hk => ?_, ⟨0, fun _ => 0, by omega, z (by decide), z (by decide), fun k hk => by omega⟩, ⟨?_, ?_⟩, fun k hk => ?_, ⟨1, by omega, by omega, m6, m7⟩, ⟨0, by omega, z (by decide), z (by decide), fun k hk => by omega⟩, ⟨0, D, S, [], ⟨⟨by omega, ?_, ?_, fun k hk => by omega, fun k hk => ?_⟩, ⟨?_, ⟨?_, ?_, ?_, ?_⟩, ⟨?_, fun t => ?_⟩, fun k hk => by omega, fun k hk => ⟨?_, ?_, ?_⟩⟩, ⟨?_, ⟨?_, ?_, ?_, ?_⟩, ⟨?_, fun t => ?_⟩, fun k hk => by omega, fun k hk => ⟨?_, ?_⟩⟩, ⟨by simp, ?_, fun j hj => by simp at hj, fun _ => m5, fun t => absurd rfl t⟩, fun k hk => by omega, ?_, fun k hk => ?_⟩, ⟨⟨?_, ?_, ?_, ?_, fun k hk => ?_⟩, ⟨?_, ?_, fun k hk => ⟨?_, ?_⟩⟩, ⟨?_, ?_, fun k hk => ⟨?_, ?_⟩⟩⟩, ⟨0, 0, by omega, by omega, z (by decide), z (by decide), z (by decide), fun i hi => by omega⟩⟩⟩
  · exact of_decide_eq_true (List.all_eq_true.mp (List.all_eq_true.mp st_w x hx) k (List.mem_range.mpr hk))
  · rw [z (o := 1) (k := 14) (by decide), z (o := 110) (k := 7) (by decide)]
  · rw [m1, m2]
  · exact of_decide_eq_true (List.all_eq_true.mp st_97 k (List.mem_range.mpr hk))
  · simp only [d0]; first | omega | decide | simp
  · simp only [d0]; first | omega | decide | simp
  · simp only [d0]; first | omega | decide | simp
  · exact z (by decide)
  · rw [d0]; exact z (by decide)
  · rw [d0]; exact z (by decide)
  · rw [d0]; exact z (by decide)
  · rw [d0]; exact z (by decide)
  · rw [d0]; exact z (by decide)
  · rw [d0] at t; omega
  · rw [d0]; exact (r8 k hk).1
  · rw [d0]; exact (r8 k hk).2.1
  · rw [d0]; exact (r8 k hk).2.2.1
  · exact z (by decide)
  · rw [d0]; exact z (by decide)
  · rw [d0]; exact z (by decide)
  · rw [d0]; exact z (by decide)
  · rw [d0]; exact z (by decide)
  · rw [d0]; exact z (by decide)
  · rw [d0] at t; omega
  · rw [d0]; exact (r8 k hk).2.2.2.1
  · rw [d0]; exact (r8 k hk).2.2.2.2.1
  · exact z (by decide)
  · rw [z (o := 84) (k := 1) (by decide), z (o := 138) (k := 4) (by decide)]
  · rw [d0, if_neg (by omega)]
  · rw [s01]; omega
  · rw [s01]; omega
  · rw [s02]; omega
  · rw [s02, s01]; omega
  · rw [s1, s2]; omega
  · rw [s01]; exact z (by decide)
  · rw [s02]; exact m3
  · rw [s1]; exact (r8 k hk).2.2.2.2.2.1
  · rw [s2]; exact (r8 k hk).2.2.2.2.2.2.1
  · rw [s01]; exact z (by decide)
  · rw [s02]; exact m4
  · rw [s1]; exact (r8 k hk).2.2.2.2.2.2.2.1
  · rw [s2]; exact (r8 k hk).2.2.2.2.2.2.2.2
theorem jpure {L : Nat} {xs : Nat → Int32} (hL : L ≤ 3072) : jPure L xs := by
  have I := st_I
  have hl := jloop (I := jInv) (X := (L, xs)) st_ok call_0 call_1 call_2 call_3 call_4 call_5 call_6 call_7 call_8 call_9 call_10 call_11 call_12 call_13 call_14 call_15 call_16 call_17 call_18 call_19 call_20 call_21 call_22 call_23 call_24 call_25 call_26 call_27 call_28 call_29 call_30 call_31 call_32 call_33 call_34 (L := L) (xs := xs) hL rfl L 0 (by omega) (by omega) I
  rw [st_R, ← st_cR] at hl
  obtain ⟨n, r, σ2, e, rfl, h2⟩ := jco_all (X := (L, xs)) (dd := 594) (Q := fun r σ => r = some (.int 1) ∧ σ.1 < 1000) hl
  exact ⟨n, 600, σ2, by omega, h2, e⟩
