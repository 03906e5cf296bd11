/-! Calls that end early: what is not there -/
section
variable {L : Nat} {xs : Nat → Int32} {d : Nat} {s : St} {Q : Option Value → am_S → Prop}
theorem c_partner0 {a : Int32} (h : s.2.1 0 6 = 0) : am_Call L xs d 56 [.ref 0, .int a] (mk s) Q = Q (some (.int (-1))) (mk s) := by
  simp only [e56, r56_0, r56_1, r56_4, r56_32, r56_33, am_laR0, g0_6, h, if_true]
theorem c_step0 {a b : Int32} (h : s.2.1 0 6 = 0) : am_Call L xs d 57 [.ref 0, .int a, .int b] (mk s) Q = Q (some (.int (-2))) (mk s) := by
  simp only [e57, r57_0, r57_1, r57_4, r57_35, r57_37, am_laR0, g0_6, h, if_true]
theorem c_count0 {a : Int32} (h : s.2.1 0 6 = 0) : am_Call L xs d 59 [.ref 0, .int a] (mk s) Q = Q (some (.int 0)) (mk s) := by
  simp only [e59, r59_0, r59_1, r59_4, r59_21, r59_22, am_laR0, g0_6, h, if_true]
theorem c_replay0 {a : Int32} (h : s.2.1 0 6 = 0) : am_Call L xs d 61 [.ref 0, .int a] (mk s) Q = Q (some (.int (-1))) (mk s) := by
  simp only [e61, r61_0, r61_1, r61_4, r61_25, r61_26, am_laR0, g0_6, h, if_true]
theorem c_node0 {a b : Int32} (h : s.2.1 0 7 = 0) : am_Call L xs d 81 [.ref 0, .int a, .int b] (mk s) Q = Q (some (.int (-2))) (mk s) := by
  simp only [e81, r81_0, r81_1, r81_4, r81_18, r81_20, am_laR0, g0_7, h, if_true]
theorem c_equal0 {a : Int32} (h : s.2.1 0 7 = 0) : am_Call L xs d 82 [.ref 0, .int a] (mk s) Q = Q (some (.int 0)) (mk s) := by
  simp only [e82, r82_0, r82_1, r82_4, r82_57, r82_58, am_laR0, g0_7, h, if_true, true_or, eq_self]
theorem c_isFilled0 {a : Int32} (h : (a < 0 ∨ 3 ≤ a) ∨ ∃ j, j < 3 ∧ a = nI j ∧ s.2.1 (2 + 5 * j) 4 = 0) : am_Call L xs (d + 1) 22 [.ref 0, .int a] (mk s) Q = Q (some (.int 0)) (mk s) := by
  rcases h with h | ⟨j, h, rfl, hu⟩
  · simp only [e22, r22_0, r22_1, r22_4, r22_7, r22_8, r22_11, r22_12, r22_13, r22_16, r22_19, r22_20, r22_23, r22_24, am_li0, am_liS, am_laR0, c_isTree0 h, am_tL, if_true, am_okI, List.length_nil, Nat.zero_le, and_true, true_and, true_or, eq_self]
  · have h1 : ¬ (1 : Int32) = 0 := by decide
    have h2 : (0 : Int32) ≤ 0 := by decide
    simp only [e22, r22_0, r22_1, r22_4, r22_7, r22_8, r22_11, r22_12, r22_13, r22_16, r22_19, r22_20, r22_23, r22_24, am_li0, am_liS, am_laR0, c_isTree1 h, am_tL, h1, h2, hu, g0_0, t_tree h, f_used (isF_t h), if_true, if_false, am_okI, List.length_nil, Nat.zero_le, and_true, true_and, true_or, eq_self]
theorem c_diff0 {a b : Int32} (h : (a < 0 ∨ 3 ≤ a) ∨ ∃ j, j < 3 ∧ a = nI j ∧ s.2.1 (2 + 5 * j) 4 = 0) : am_Call L xs (d + 2) 21 [.ref 0, .int a, .int b] (mk s) Q = Q (some (.int (-1))) (mk s) := by
  simp only [e21, r21_0, r21_1, r21_2, r21_5, r21_16, r21_17, am_li0, am_liS, am_laR0, t_oc, c_isFilled0 h, am_tL, if_true, am_okI, List.length_nil, Nat.zero_le, and_true, true_and]
theorem c_merge0 (h : s.2.1 2 4 = 0) : am_Call L xs (d + 2) 67 [.ref 0] (mk s) Q = Q (some (.int (-1))) (mk s) := by
  have hf : ∀ Q : Option Value → am_S → Prop, am_Call L xs (d + 1) 22 [.ref 0, .int 0] (mk s) Q = Q (some (.int 0)) (mk s) := fun Q => c_isFilled0 (Or.inr ⟨0, by omega, rfl, h⟩)
  simp only [e67, r67_0, r67_1, r67_2, r67_5, r67_24, r67_25, am_laR0, t_oc, hf, am_tL, if_true, am_okI, List.length_nil, Nat.zero_le, and_true, true_and]
/-- has on an empty forest -/
theorem c_hasE {p n : Nat} (hF : isF p n) (hn : n < 2 ^ 31) (hu : s.2.1 p 4 = 0) {x : Int32} : am_Call L xs d 9 [.ref p, .int x] (mk s) Q = Q (some (.int 0)) (mk s) := by
  have e : ¬ ∃ j, j < 0 ∧ x = nI j ∧ ¬ s.1 (p + 1) j = -2 := by
    rintro ⟨j, h, -⟩
    exact Nat.not_lt_zero _ h
  have h := c_has (L := L) (xs := xs) (d := d) (Q := Q) (x := x) (u := 0) hF hn hu (Nat.zero_le _)
  rw [if_neg e] at h
  exact h
theorem c_height0 {a b : Int32} (h : (a < 0 ∨ 3 ≤ a) ∨ ∃ j, j < 3 ∧ a = nI j ∧ s.2.1 (2 + 5 * j) 4 = 0) : am_Call L xs (d + 1) 17 [.ref 0, .int a, .int b] (mk s) Q = Q (some (.int (-1))) (mk s) := by
  rcases h with h | ⟨j, h, rfl, hu⟩
  · simp only [e17, r17_0, r17_1, r17_4, r17_20, r17_21, am_li0, am_liS, am_laR0, c_isTree0 h, am_tL, if_true, am_okI, List.length_nil, Nat.zero_le, and_true, true_and]
  · have h1 : ¬ (1 : Int32) = 0 := by decide
    simp only [e17, r17_0, r17_1, r17_4, r17_7, r17_8, r17_11, r17_12, r17_13, r17_14, r17_17, r17_20, r17_21, am_li0, am_liS, am_laR0, c_isTree1 h, am_tL, h1, not_true, g0_0, t_tree h, f_oc (isF_t h), c_hasE (isF_t h) (by decide) hu, if_false, am_okI, List.length_nil, Nat.zero_le, and_true, true_and]
theorem c_same0 {p q : Nat} {x y : Int32} (hF : isF p 12) (hu : s.2.1 p 4 = 0) : am_Call L xs (d + 1) 20 [.ref p, .int x, .ref q, .int y, .int 0] (mk s) Q = Q (some (.int 0)) (mk s) := by
  have h1 : ¬ (40 : Int32) < 0 := by decide
  simp only [e20, r20_0, r20_2, r20_4, r20_7, r20_8, r20_9, r20_12, r20_23, r20_24, am_li0, am_liS, am_laR0, am_laS, h1, f_oc hF, c_hasE hF (by decide) hu, am_tL, if_true, if_false, am_okI, List.length_nil, Nat.zero_le, and_true, true_and, true_or, eq_self]
theorem c_alike0 {a b c e : Int32} (h : (a < 0 ∨ 3 ≤ a) ∨ (c < 0 ∨ 3 ≤ c) ∨ ∃ j, j < 3 ∧ a = nI j ∧ s.2.1 (2 + 5 * j) 4 = 0) : am_Call L xs (d + 2) 19 [.ref 0, .int a, .int b, .int c, .int e] (mk s) Q = Q (some (.int 0)) (mk s) := by
  have h1 : ¬ (1 : Int32) = 0 := by decide
  by_cases ha : a < 0 ∨ 3 ≤ a
  · simp only [e19, r19_0, r19_1, r19_4, r19_40, r19_41, am_li0, am_liS, am_laR0, c_isTree0 ha, am_tL, if_true, am_okI, List.length_nil, Nat.zero_le, and_true, true_and, true_or, eq_self]
  · obtain ⟨j, hj, rfl⟩ : ∃ j, j < 3 ∧ a = nI j := by
      rcases pk_ix a (n := 3) (by decide) with q | q | q
      · exact absurd (Or.inl q) ha
      · exact absurd (Or.inr q) ha
      · exact q
    by_cases hc : c < 0 ∨ 3 ≤ c
    · simp only [e19, r19_0, r19_1, r19_4, r19_7, r19_8, r19_11, r19_40, r19_41, am_li0, am_liS, am_laR0, c_isTree1 hj, c_isTree0 hc, am_tL, h1, if_true, if_false, am_okI, List.length_nil, Nat.zero_le, and_true, true_and, true_or, eq_self]
    · obtain ⟨i, hi, rfl⟩ : ∃ j, j < 3 ∧ c = nI j := by
        rcases pk_ix c (n := 3) (by decide) with q | q | q
        · exact absurd (Or.inl q) hc
        · exact absurd (Or.inr q) hc
        · exact q
      have hu : s.2.1 (2 + 5 * j) 4 = 0 := by
        rcases h with h | h | ⟨j2, h2, h3, h4⟩
        · exact absurd h ha
        · exact absurd h hc
        · rw [(nI_eq (by omega) (by omega)).mp h3]; exact h4
      simp only [e19, r19_0, r19_1, r19_4, r19_7, r19_8, r19_11, r19_14, r19_15, r19_18, r19_19, r19_20, r19_21, r19_22, r19_25, r19_26, r19_27, r19_29, r19_30, r19_33, r19_36, r19_37, r19_40, r19_41, am_li0, am_liS, am_laR0, c_isTree1 hj, c_isTree1 hi, am_tL, h1, g0_0, t_tree hj, t_tree hi, c_same0 (isF_t hj) hu, if_true, if_false, am_okI, am_okR, List.length_nil, Nat.zero_le, and_true, true_and, true_or, eq_self]
/-! the reference -/
theorem m_isNode0 {a b : Int32} (h : (a < 0 ∨ 3 ≤ a) ∨ ∃ j, j < 3 ∧ a = nI j ∧ s.1 122 j = 0) : am_Call L xs (d + 1) 86 [.ref 121, .int a, .int b] (mk s) Q = Q (some (.int 0)) (mk s) := by
  rcases h with h | ⟨j, h, rfl, hu⟩
  · simp only [e86, r86_0, r86_1, r86_4, r86_7, r86_8, r86_11, r86_12, r86_13, r86_16, r86_17, r86_18, r86_21, r86_22, r86_25, r86_26, am_li0, am_liS, am_laR0, m_isTree0 h, am_tL, if_true, am_okI, List.length_nil, Nat.zero_le, and_true, true_and, true_or, eq_self]
  · have h1 : ¬ (1 : Int32) = 0 := by decide
    have h2 : am_in (nI j) 4 = true := in_of (by omega) (by decide)
    have h3 : (nI j).toNatClampNeg = j := nI_clamp (by omega)
    by_cases hb : b < 0
    · simp only [e86, r86_0, r86_1, r86_4, r86_7, r86_8, r86_11, r86_12, r86_13, r86_16, r86_17, r86_18, r86_21, r86_22, r86_25, r86_26, am_li0, am_liS, am_laR0, m_isTree1 h, am_tL, h1, hb, if_true, if_false, am_okI, List.length_nil, Nat.zero_le, and_true, true_and, true_or, eq_self]
    · have hb2 : (0 : Int32) ≤ b := Int32.not_lt.mp hb
      simp only [e86, r86_0, r86_1, r86_4, r86_7, r86_8, r86_11, r86_12, r86_13, r86_16, r86_17, r86_18, r86_21, r86_22, r86_25, r86_26, am_li0, am_liS, am_laR0, m_isTree1 h, am_tL, h1, h2, h3, hb, hb2, hu, g121_0, a122, if_true, if_false, am_okI, List.length_nil, Nat.zero_le, and_true, true_and, true_or, eq_self]
theorem m_height0 {a b : Int32} (h : (a < 0 ∨ 3 ≤ a) ∨ ∃ j, j < 3 ∧ a = nI j ∧ s.1 122 j = 0) : am_Call L xs (d + 2) 89 [.ref 121, .int a, .int b] (mk s) Q = Q (some (.int (-1))) (mk s) := by
  simp only [e89, r89_0, r89_1, r89_2, r89_3, r89_6, r89_9, r89_10, am_li0, am_liS, am_laR0, m_oc, m_isNode0 h, am_tL, not_true, if_false, am_okI, List.length_nil, Nat.zero_le, and_true, true_and]
theorem m_alike0 {a b c e : Int32} (h : (a < 0 ∨ 3 ≤ a) ∨ ∃ j, j < 3 ∧ a = nI j ∧ s.1 122 j = 0) : am_Call L xs (d + 2) 90 [.ref 121, .int a, .int b, .int c, .int e] (mk s) Q = Q (some (.int 0)) (mk s) := by
  simp only [e90, r90_0, r90_1, r90_2, r90_3, r90_6, r90_19, r90_20, am_li0, am_liS, am_laR0, m_oc, m_isNode0 h, am_tL, if_true, am_okI, List.length_nil, Nat.zero_le, and_true, true_and, true_or, eq_self]
theorem m_diff0 {a b : Int32} (h : (a < 0 ∨ 3 ≤ a) ∨ ∃ j, j < 3 ∧ a = nI j ∧ s.1 122 j = 0) : am_Call L xs (d + 1) 93 [.ref 121, .int a, .int b] (mk s) Q = Q (some (.int (-1))) (mk s) := by
  have h1 : ¬ (1 : Int32) = 0 := by decide
  rcases h with h | ⟨j, h, rfl, hu⟩
  · simp only [e93, r93_0, r93_1, r93_4, r93_32, r93_33, am_li0, am_liS, am_laR0, m_isTree0 h, am_tL, if_true, am_okI, List.length_nil, Nat.zero_le, and_true, true_and]
  · have h2 : am_in (nI j) 4 = true := in_of (by omega) (by decide)
    have h3 : (nI j).toNatClampNeg = j := nI_clamp (by omega)
    rcases pk_ix b (n := 3) (by decide) with q | q | ⟨i, hi, rfl⟩
    · simp only [e93, r93_0, r93_1, r93_4, r93_7, r93_8, r93_11, r93_32, r93_33, am_li0, am_liS, am_laR0, m_isTree1 h, m_isTree0 (Or.inl q), am_tL, h1, if_true, if_false, am_okI, List.length_nil, Nat.zero_le, and_true, true_and]
    · simp only [e93, r93_0, r93_1, r93_4, r93_7, r93_8, r93_11, r93_32, r93_33, am_li0, am_liS, am_laR0, m_isTree1 h, m_isTree0 (Or.inr q), am_tL, h1, if_true, if_false, am_okI, List.length_nil, Nat.zero_le, and_true, true_and]
    · simp only [e93, r93_0, r93_1, r93_4, r93_7, r93_8, r93_11, r93_14, r93_15, r93_18, r93_19, r93_20, r93_32, r93_33, am_li0, am_liS, am_laR0, m_isTree1 h, m_isTree1 hi, am_tL, h1, h2, h3, hu, g121_0, a122, if_true, if_false, am_okI, List.length_nil, Nat.zero_le, and_true, true_and]
theorem m_partner0 {a : Int32} (h : s.2.1 121 26 = 0) : am_Call L xs d 109 [.ref 121, .int a] (mk s) Q = Q (some (.int (-1))) (mk s) := by
  simp only [e109, r109_0, r109_1, r109_4, r109_30, r109_31, am_laR0, g121_26, h, if_true]
theorem m_step0 {a b : Int32} (h : s.2.1 121 26 = 0) : am_Call L xs d 110 [.ref 121, .int a, .int b] (mk s) Q = Q (some (.int (-2))) (mk s) := by
  simp only [e110, r110_0, r110_1, r110_4, r110_30, r110_32, am_laR0, g121_26, h, if_true]
theorem m_count0 {a : Int32} (h : s.1 138 1 = 0) : am_Call L xs d 111 [.ref 121, .int a] (mk s) Q = Q (some (.int 0)) (mk s) := by
  have h1 : am_in 1 4 = true := by decide
  have h2 : (1 : Int32).toNatClampNeg = 1 := by decide
  have h3 : (0 : Int32) ≤ 0 := by decide
  simp only [e111, r111_0, r111_1, r111_2, r111_3, r111_4, r111_5, r111_6, r111_9, r111_10, r111_11, r111_41, r111_42, am_li0, am_liS, am_laR0, am_laS, g121_18, a138, h1, h2, h3, h, if_true, List.length_cons, List.length_nil, List.set_cons_succ, List.set_cons_zero, Nat.reduceAdd, Nat.reduceLT, true_and]
theorem m_replay0 {a : Int32} (h : s.2.1 121 26 = 0) : am_Call L xs d 112 [.ref 121, .int a] (mk s) Q = Q (some (.int (-1))) (mk s) := by
  simp only [e112, r112_0, r112_1, r112_4, r112_21, r112_22, am_laR0, g121_26, h, if_true]
theorem m_merge0 (h : s.1 122 0 = 0) : am_Call L xs d 119 [.ref 121] (mk s) Q = Q (some (.int (-1))) (mk s) := by
  have h1 : am_in 0 4 = true := by decide
  have h2 : (0 : Int32).toNatClampNeg = 0 := by decide
  simp only [e119, r119_0, r119_1, r119_4, r119_5, r119_6, r119_27, r119_28, am_laR0, g121_0, a122, h1, h2, h, if_true, true_and]
theorem m_node0 {a b : Int32} (h : s.2.1 121 28 = 0) : am_Call L xs d 129 [.ref 121, .int a, .int b] (mk s) Q = Q (some (.int (-2))) (mk s) := by
  simp only [e129, r129_0, r129_1, r129_4, r129_37, r129_39, am_laR0, g121_28, h, if_true]
theorem m_equal0 {a : Int32} (h : s.2.1 121 28 = 0) : am_Call L xs d 130 [.ref 121, .int a] (mk s) Q = Q (some (.int 0)) (mk s) := by
  simp only [e130, r130_0, r130_1, r130_4, r130_41, r130_42, am_laR0, g121_28, h, if_true, true_or, eq_self]
end
