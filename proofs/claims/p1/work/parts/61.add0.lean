/-! add on an empty tree -/
section
variable {L : Nat} {xs : Nat → Int32} {d : Nat} {s : St} {Q : Option Value → am_S → Prop}
theorem c_count00 {p n : Nat} (hF : isF p n) (hu : s.2.1 p 4 = 0) {x : Int32} : am_Call L xs d 10 [.ref p, .int x] (mk s) Q = Q (some (.int 0)) (mk s) := by
  have h3 : (0 : Int32) ≤ 0 := by decide
  simp only [e10, r10_0, r10_1, r10_2, r10_3, r10_4, r10_5, r10_6, r10_9, r10_31, r10_32, am_li0, am_liS, am_laR0, f_used hF, hu, h3, if_true, List.length_cons, List.length_nil, List.set_cons_succ, List.set_cons_zero, Nat.reduceAdd, Nat.reduceLT, true_and]
theorem c_childAt00 {p n : Nat} (hF : isF p n) (hu : s.2.1 p 4 = 0) {x y : Int32} : am_Call L xs d 11 [.ref p, .int x, .int y] (mk s) Q = Q (some (.int (-1))) (mk s) := by
  have h3 : (0 : Int32) ≤ 0 := by decide
  simp only [e11, r11_0, r11_1, r11_2, r11_3, r11_4, r11_7, r11_38, r11_39, am_li0, am_liS, am_laR0, f_used hF, hu, h3, if_true, List.length_cons, List.length_nil, List.set_cons_succ, List.set_cons_zero, Nat.reduceAdd, Nat.reduceLT, true_and]
theorem c_hasN {p n : Nat} (hF : isF p n) {x : Int32} (hx : x < 0) : am_Call L xs d 9 [.ref p, .int x] (mk s) Q = Q (some (.int 0)) (mk s) := by
  simp only [e9, r9_0, r9_1, r9_27, r9_28, am_li0, am_liS, hx, if_true, true_or, eq_self]
theorem c_make00 {p : Nat} (hF : isF p 12) (hu : s.2.1 p 4 = 0) {x y : Int32} : am_Call L xs (d + 1) 12 [.ref p, .int 0, .int x, .int y] (mk s) Q =
    Q none (mk (va_up (va_up s.1 (p + 3) (upd (s.1 (p + 3)) 0 x)) (p + 4) (upd (s.1 (p + 4)) 0 y), am_u2 s.2.1 p 4 1, s.2.2)) := by
  have h1 : ¬ (0 : Int32) < 0 := by decide
  have h2 : (0 : Int32) < Int32.ofNat 12 := by decide
  have h3 : am_in 0 12 = true := by decide
  have h4 : (0 : Int32).toNatClampNeg = 0 := by decide
  have h5 : (0 : Int32) < 1 := by decide
  have h6 : (0 : Int32) + 1 = 1 := by decide
  have h7 : va_up s.1 (p + 3) (upd (s.1 (p + 3)) 0 x) (p + 4) = s.1 (p + 4) := up_ne _ _ (by omega)
  simp only [e12, r12_0, r12_1, r12_4, r12_5, r12_6, r12_9, r12_10, r12_13, r12_14, r12_15, r12_18, r12_19, r12_20, r12_21, r12_22, r12_25, r12_26, r12_27, r12_28, r12_29, r12_30, r12_33, r12_34, r12_35, r12_36, r12_39, r12_42, am_li0, am_liS, am_laR0, f_par hF, f_typ hF, f_lab hF, f_used hF, fl_par hF, fw_typ hF, fw_lab hF, fv_used hF, hu, h1, h2, h3, h4, h5, h6, h7, if_true, if_false, List.length_cons, List.length_nil, Nat.reduceAdd, Nat.reduceLeDiff, true_and]
theorem c_put00 {p : Nat} (hF : isF p 12) (hu : s.2.1 p 4 = 1) (hp : s.1 (p + 1) 0 = -2) : am_Call L xs (d + 1) 13 [.ref p, .int 0, .int (-1), .int (-1)] (mk s) Q =
    Q none (mk (va_up (va_up s.1 (p + 1) (upd (s.1 (p + 1)) 0 (-1))) (p + 2) (upd (s.1 (p + 2)) 0 0), s.2)) := by
  have h1 : ¬ (0 : Int32) < 0 := by decide
  have h2 : (0 : Int32) < 1 := by decide
  have h3 : am_in 0 12 = true := by decide
  have h4 : (0 : Int32).toNatClampNeg = 0 := by decide
  have h5 : ¬ (1 : Int32) ≤ 0 := by decide
  have h6 : (0 : Int32) + 1 = 1 := by decide
  have h7 : (1 : Int32) ≤ 1 := by decide
  have h8 : ¬ (-2 : Int32) = -1 := by decide
  have h9 : (-1 : Int32) < 0 := by decide
  have h10 : va_up s.1 (p + 1) (upd (s.1 (p + 1)) 0 (-1)) (p + 2) = s.1 (p + 2) := up_ne _ _ (by omega)
  simp only [e13, r13_0, r13_1, r13_4, r13_5, r13_6, r13_9, r13_12, r13_13, r13_14, r13_15, r13_18, r13_21, r13_22, r13_25, r13_26, r13_27, r13_28, r13_29, r13_32, r13_33, r13_35, r13_36, am_li0, am_liS, am_laR0, am_tL, f_used hF, f_oc hF, c_hasN hF h9, hu, h1, h2, if_true, if_false, am_okI, List.length_cons, List.length_nil, List.set_cons_succ, List.set_cons_zero, Nat.reduceAdd, Nat.reduceLT, Nat.zero_le, and_true, true_and]
  rw [r13_38]
  simp only [r13_40, r13_41, r13_44, r13_47, r13_48, r13_51, r13_53, r13_54, r13_55, r13_81, r13_84, am_li0, am_liS, am_laR0, f_par hF, f_used hF, fa_par hF, hu, hp, h3, h4, h5, h6, h8, if_true, if_false, not_false_eq_true, List.set_cons_succ, List.set_cons_zero, true_and]
  rw [r13_38]
  simp only [r13_40, r13_41, r13_44, r13_87, r13_88, r13_91, r13_92, r13_93, r13_94, r13_95, r13_98, r13_99, r13_101, r13_102, am_li0, am_liS, am_laR0, f_par hF, f_pla hF, f_used hF, fw_par hF, fw_pla hF, hu, h3, h4, h7, h10, if_true, true_and]
/-- the store behind add(j, -1, x, y) on an empty tree -/
def add00 (s : St) (p : Nat) (x y : Int32) : St := (va_up (va_up (va_up (va_up s.1 (p + 3) (upd (s.1 (p + 3)) 0 x)) (p + 4) (upd (s.1 (p + 4)) 0 y)) (p + 1) (upd (s.1 (p + 1)) 0 (-1))) (p + 2) (upd (s.1 (p + 2)) 0 0), am_u2 s.2.1 p 4 1, s.2.2)
theorem c_add00 {j : Nat} (h : j < 3) (hu : s.2.1 (2 + 5 * j) 4 = 0) (hp : s.1 (2 + 5 * j + 1) 0 = -2) {x y : Int32} (hx : ¬ x < 0) (hx8 : x < 8) :
    am_Call L xs (d + 2) 7 [.ref 0, .int (nI j), .int (-1), .int x, .int y] (mk s) Q = Q (some (.int 0)) (mk (add00 s (2 + 5 * j) x y)) := by
  have hF := isF_t h
  generalize hpe : 2 + 5 * j = p at hF hu hp ⊢
  have ht : ∀ f : Nat → Prop, am_ar2 (mk s) 1 (nI j) f = f p := fun f => by rw [t_tree h, hpe]
  have h1 : ¬ (1 : Int32) = 0 := by decide
  have h2 : ¬ (0 : Int32) = 1 := by decide
  have h3 : (0 : Int32) < 12 := by decide
  have hm1 : ((-1 : Int32) = -1) = True := eq_self _
  have e1 : ∀ (Q : Option Value → am_S → Prop), am_Call L xs (d + 1) 13 [.ref p, .int 0, .int (-1), .int (-1)] (mk (va_up (va_up s.1 (p + 3) (upd (s.1 (p + 3)) 0 x)) (p + 4) (upd (s.1 (p + 4)) 0 y), am_u2 s.2.1 p 4 1, s.2.2)) Q = Q none (mk (add00 s p x y)) := by
    intro Q
    have a1 : (va_up (va_up s.1 (p + 3) (upd (s.1 (p + 3)) 0 x)) (p + 4) (upd (s.1 (p + 4)) 0 y)) (p + 1) = s.1 (p + 1) := by rw [up_ne _ _ (by omega), up_ne _ _ (by omega)]
    have a2 : (va_up (va_up s.1 (p + 3) (upd (s.1 (p + 3)) 0 x)) (p + 4) (upd (s.1 (p + 4)) 0 y)) (p + 2) = s.1 (p + 2) := by rw [up_ne _ _ (by omega), up_ne _ _ (by omega)]
    have a3 : (va_up (va_up s.1 (p + 3) (upd (s.1 (p + 3)) 0 x)) (p + 4) (upd (s.1 (p + 4)) 0 y)) (p + 1) 0 = -2 := by rw [a1]; exact hp
    rw [c_put00 hF (u2_same _ _ _ _) a3]
    dsimp only
    rw [a1, a2]
    rfl
  simp only [e7, r7_0, r7_1, r7_4, r7_7, r7_8, r7_11, r7_12, r7_14, r7_17, r7_18, r7_19, r7_20, r7_23, r7_24, r7_25, r7_27, r7_29, r7_32, r7_35, r7_36, r7_37, r7_40, r7_41, r7_44, r7_45, r7_48, r7_50, r7_51, r7_54, r7_56, r7_58, r7_61, r7_63, r7_66, r7_68, r7_71, r7_72, r7_73, r7_75, r7_78, r7_80, r7_82, r7_83, r7_85, r7_86, r7_89, r7_90, r7_91, r7_94, r7_96, r7_98, r7_100, r7_101, r7_103, r7_106, r7_108, r7_110, r7_111, r7_113, r7_116, r7_118, am_li0, am_liS, am_laR0, am_laS, c_isTree1 h, am_tL, am_tN, h1, hx, hx8, hm1, not_true, not_false_eq_true, g0_0, ht, f_used hF, f_oc hF, hu, h3, c_count00 hF hu, c_childAt00 hF hu, c_make00 hF hu, e1, if_true, if_false, am_okI, am_okR, List.length_cons, List.length_nil, List.set_cons_succ, List.set_cons_zero, Nat.reduceAdd, Nat.reduceLT, Nat.reduceLeDiff, Nat.zero_le, and_true, true_and]
theorem c_add0T {t a x y : Int32} (h : t < 0 ∨ 3 ≤ t) : am_Call L xs (d + 2) 7 [.ref 0, .int t, .int a, .int x, .int y] (mk s) Q = Q (some (.int (-1))) (mk s) := by
  simp only [e7, r7_0, r7_1, r7_4, r7_17, r7_18, am_li0, am_liS, c_isTree0 h, am_tL, if_true, am_okI, List.length_nil, Nat.zero_le, and_true, true_and]
theorem c_add0K {j : Nat} {a x y : Int32} (h : j < 3) (hx : x < 0 ∨ ¬ x < 8) : am_Call L xs (d + 2) 7 [.ref 0, .int (nI j), .int a, .int x, .int y] (mk s) Q = Q (some (.int (-1))) (mk s) := by
  have h1 : ¬ (1 : Int32) = 0 := by decide
  by_cases h2 : x < 0
  · simp only [e7, r7_0, r7_1, r7_4, r7_7, r7_8, r7_11, r7_12, r7_14, r7_17, r7_18, am_li0, am_liS, c_isTree1 h, am_tL, h1, h2, if_true, if_false, am_okI, List.length_nil, Nat.zero_le, and_true, true_and]
  · have h3 := hx.resolve_left h2
    simp only [e7, r7_0, r7_1, r7_4, r7_7, r7_8, r7_11, r7_12, r7_14, r7_17, r7_18, am_li0, am_liS, c_isTree1 h, am_tL, h1, h2, h3, if_true, if_false, am_okI, List.length_nil, Nat.zero_le, and_true, true_and]
theorem c_add0P {j : Nat} {a x y : Int32} (h : j < 3) (hu : s.2.1 (2 + 5 * j) 4 = 0) (hx : ¬ x < 0) (hx8 : x < 8) (ha : ¬ a = -1) : am_Call L xs (d + 2) 7 [.ref 0, .int (nI j), .int a, .int x, .int y] (mk s) Q = Q (some (.int (-1))) (mk s) := by
  have hF := isF_t h
  have h1 : ¬ (1 : Int32) = 0 := by decide
  simp only [e7, r7_0, r7_1, r7_4, r7_7, r7_8, r7_11, r7_12, r7_14, r7_17, r7_18, r7_19, r7_20, r7_23, r7_24, r7_25, r7_27, r7_29, r7_32, r7_35, r7_36, r7_37, r7_40, r7_41, r7_44, r7_45, r7_48, r7_50, r7_51, r7_54, r7_56, r7_58, r7_61, r7_63, r7_66, r7_68, r7_71, r7_72, am_li0, am_liS, am_laR0, am_laS, c_isTree1 h, am_tL, am_tN, h1, hx, hx8, ha, not_true, not_false_eq_true, g0_0, t_tree h, f_used hF, hu, if_true, if_false, am_okI, am_okR, List.length_cons, List.length_nil, List.set_cons_succ, List.set_cons_zero, Nat.reduceAdd, Nat.reduceLT, Nat.reduceLeDiff, Nat.zero_le, and_true, true_and]
/-! the reference -/
theorem m_add0T {t a x y : Int32} (h : t < 0 ∨ 3 ≤ t) : am_Call L xs (d + 2) 84 [.ref 121, .int t, .int a, .int x, .int y] (mk s) Q = Q (some (.int (-1))) (mk s) := by
  simp only [e84, r84_0, r84_1, r84_4, r84_28, r84_29, am_li0, am_liS, m_isTree0 h, am_tL, if_true, am_okI, List.length_nil, Nat.zero_le, and_true, true_and]
theorem k7 {x : Int32} (h : ¬ x < 8) : 7 < x := by
  rw [Int32.lt_iff_toInt_lt] at h ⊢
  have e7 : (7 : Int32).toInt = 7 := by decide
  have e8 : (8 : Int32).toInt = 8 := by decide
  rw [e8] at h
  rw [e7]
  omega
theorem k7' {x : Int32} (h : x < 8) : ¬ 7 < x := by
  rw [Int32.lt_iff_toInt_lt] at h ⊢
  have e7 : (7 : Int32).toInt = 7 := by decide
  have e8 : (8 : Int32).toInt = 8 := by decide
  rw [e8] at h
  rw [e7]
  omega
theorem m_add0K {j : Nat} {a x y : Int32} (h : j < 3) (hx : x < 0 ∨ ¬ x < 8) : am_Call L xs (d + 2) 84 [.ref 121, .int (nI j), .int a, .int x, .int y] (mk s) Q = Q (some (.int (-1))) (mk s) := by
  have h1 : ¬ (1 : Int32) = 0 := by decide
  by_cases h2 : x < 0
  · simp only [e84, r84_0, r84_1, r84_4, r84_7, r84_8, r84_11, r84_12, r84_14, r84_28, r84_29, am_li0, am_liS, m_isTree1 h, am_tL, h1, h2, if_true, if_false, am_okI, List.length_nil, Nat.zero_le, and_true, true_and]
  · have h3 := k7 (hx.resolve_left h2)
    simp only [e84, r84_0, r84_1, r84_4, r84_7, r84_8, r84_11, r84_12, r84_14, r84_28, r84_29, am_li0, am_liS, m_isTree1 h, am_tL, h1, h2, h3, if_true, if_false, am_okI, List.length_nil, Nat.zero_le, and_true, true_and]
theorem m_add0P {j : Nat} {a x y : Int32} (h : j < 3) (hu : s.1 122 j = 0) (hx : ¬ x < 0) (hx8 : x < 8) (ha : ¬ a = -1) : am_Call L xs (d + 2) 84 [.ref 121, .int (nI j), .int a, .int x, .int y] (mk s) Q = Q (some (.int (-1))) (mk s) := by
  have h1 : ¬ (1 : Int32) = 0 := by decide
  have h2 : am_in (nI j) 4 = true := in_of (by omega) (by decide)
  have h3 : (nI j).toNatClampNeg = j := nI_clamp (by omega)
  have h4 : ¬ (0 : Int32) = 12 := by decide
  simp only [e84, r84_0, r84_1, r84_4, r84_7, r84_8, r84_11, r84_12, r84_14, r84_17, r84_18, r84_21, r84_22, r84_23, r84_25, r84_28, r84_29, r84_30, r84_31, r84_32, r84_35, r84_36, r84_39, r84_40, r84_41, r84_44, r84_47, r84_48, r84_49, r84_50, r84_53, r84_56, r84_57, am_li0, am_liS, am_laR0, m_isTree1 h, m_isNode0 (Or.inr ⟨j, h, rfl, hu⟩), m_oc, am_tL, h1, h2, h3, h4, hx, k7' hx8, ha, hu, g121_0, a122, not_true, not_false_eq_true, if_true, if_false, am_okI, List.length_nil, Nat.zero_le, and_true, true_and]
/-- the store behind the reference's add(j, -1, x, y) on an empty tree -/
def addM0 (s : St) (j : Nat) (x y : Int32) : St := (va_up (va_up (va_up (va_up s.1 123 (upd (s.1 123) (12 * j) (-1))) 124 (upd (s.1 124) (12 * j) x)) 125 (upd (s.1 125) (12 * j) y)) 122 (upd (s.1 122) j 1), s.2)
theorem m_add00 {j : Nat} (h : j < 3) (hu : s.1 122 j = 0) {x y : Int32} (hx : ¬ x < 0) (hx8 : x < 8) : am_Call L xs (d + 2) 84 [.ref 121, .int (nI j), .int (-1), .int x, .int y] (mk s) Q = Q (some (.int 0)) (mk (addM0 s j x y)) := by
  have h1 : ¬ (1 : Int32) = 0 := by decide
  have h2 : am_in (nI j) 4 = true := in_of (by omega) (by decide)
  have h3 : (nI j).toNatClampNeg = j := nI_clamp (by omega)
  have h4 : ¬ (0 : Int32) = 12 := by decide
  have hm1 : ((-1 : Int32) = -1) = True := eq_self _
  have h5 : (0 : Int32) ≤ 0 := by decide
  have e12 : (12 : Int32) * nI j + 0 = nI (12 * j) := by
    show nI 12 * nI j + nI 0 = _
    rw [pk_mul, nI_add]; rfl
  have h6 : am_in (nI (12 * j)) 48 = true := in_of (by omega) (by decide)
  have h7 : (nI (12 * j)).toNatClampNeg = 12 * j := nI_clamp (by omega)
  have h9 : ∀ (f : Nat → Int32) (v : Int32), upd f j v j = v := fun f v => by simp [upd]
  have h10 : (1 : Int32) - 1 = 0 := by decide
  have h11 : (0 : Int32) + 1 = 1 := by decide
  unfold addM0
  simp only [e84, r84_0, r84_1, r84_4, r84_7, r84_8, r84_11, r84_12, r84_14, r84_17, r84_18, r84_21, r84_22, r84_23, r84_25, r84_28, r84_29, r84_30, r84_31, r84_32, r84_35, r84_36, r84_39, r84_40, r84_41, r84_44, r84_47, r84_48, r84_49, r84_50, r84_53, r84_56, r84_57, r84_58, r84_60, r84_61, r84_62, r84_63, r84_66, r84_67, r84_68, r84_69, r84_71, r84_72, r84_75, r84_77, r84_78, r84_79, r84_80, r84_83, r84_85, r84_86, r84_87, r84_88, r84_91, r84_93, r84_95, r84_96, r84_97, r84_100, r84_101, r84_102, r84_103, r84_104, r84_105, r84_106, r84_107, r84_110, r84_111, r84_112, r84_113, r84_114, am_li0, am_liS, am_laR0, m_isTree1 h, am_tL, h1, h2, h3, h4, h5, hx, k7' hx8, hm1, hu, g121_0, g121_1, g121_2, g121_3, a122, w122, w123, w124, w125, e12, h6, h7, up_ne, ne_eq, Nat.reduceEqDiff, up_same, h9, h10, h11, not_true, not_false_eq_true, if_true, if_false, am_okI, am_okR, Bool.and_self, List.length_cons, List.length_nil, List.set_cons_succ, List.set_cons_zero, Nat.reduceAdd, Nat.reduceLT, Nat.zero_le, and_true, true_and]
end
