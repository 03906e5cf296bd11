/-! Arrays.fill, wipe, size, clear -/
theorem up_same {α : Type} (A : Nat → α) (q : Nat) (g : α) : va_up A q g q = g := by simp [va_up]
theorem up_up {α : Type} (A : Nat → α) (q : Nat) (g h : α) : va_up (va_up A q g) q h = va_up A q h := by
  funext j; unfold va_up; split <;> rfl
theorem up_ne {α : Type} (A : Nat → α) {q k : Nat} (g : α) (h : k ≠ q) : va_up A q g k = A k := by simp [va_up, h]
theorem up_self {α : Type} (A : Nat → α) (q : Nat) : va_up A q (A q) = A := by
  funext j; unfold va_up
  by_cases h : j = q
  · rw [if_pos h, h]
  · rw [if_neg h]
theorem u2_same {α : Type} (F : Nat → Nat → α) (p k : Nat) (x : α) : am_u2 F p k x p k = x := by simp [am_u2]
theorem u2_ne {α : Type} (F : Nat → Nat → α) {p k q j : Nat} (x : α) (h : ¬ (q = p ∧ j = k)) : am_u2 F p k x q j = F q j := by simp only [am_u2, h, if_false]
section
variable {L : Nat} {xs : Nat → Int32} {d : Nat} {s : St} {Q : Option Value → am_S → Prop}
/-- an array's first i places filled with v -/
def fil (i : Nat) (v : Int32) (g : Nat → Int32) : Nat → Int32 := fun j => if j < i then v else g j
theorem fil_0 (v : Int32) (g : Nat → Int32) : fil 0 v g = g := by funext j; simp [fil]
theorem fil_s (i : Nat) (v : Int32) (g : Nat → Int32) : upd (fil i v g) i v = fil (i + 1) v g := by
  funext j
  unfold upd fil
  by_cases h : j = i
  · rw [if_pos h, if_pos (by omega)]
  · rw [if_neg h]
    by_cases h2 : j < i
    · rw [if_pos h2, if_pos (by omega)]
    · rw [if_neg h2, if_neg (by omega)]
theorem a_fill_loop {q n : Nat} {v : Int32} (hq : in_sk[q]? = some (.inl (0, n))) (hn : n < 2 ^ 31) : ∀ (m i : Nat), n - i = m → i ≤ n →
    am_Rn L xs d 2 5 [.ref q, .int v, .int (nI i), .int (nI n)] [] (mk (va_up s.1 q (fil i v (s.1 q)), s.2)) Q = Q none (mk (va_up s.1 q (fil n v (s.1 q)), s.2))
  | 0, i, hm, hi => by
    have e : i = n := by omega
    subst e
    have h1 : nI i ≤ nI i := nI_le (Nat.le_refl _) (by omega)
    simp only [r2_5, r2_6, r2_7, r2_20, am_li0, am_liS, h1, if_true]
  | m + 1, i, hm, hi => by
    have h1 : ¬ nI n ≤ nI i := nI_ge (by omega) (by omega)
    have h2 : am_in (nI i) n = true := in_of (by omega) hn
    have h3 : (nI i).toNatClampNeg = i := nI_clamp (by omega)
    have hw : ∀ (S : St) (x : Int32) (f : am_S → Prop), am_wi 0 (mk S) q (nI i) x f = (am_in (nI i) n = true ∧ f (mk (va_up S.1 q (upd (S.1 q) (nI i).toNatClampNeg x), S.2))) := fun S x f => am_k_wi (sk := in_sk) hq
    rw [r2_5]
    simp only [r2_6, r2_7, r2_10, r2_11, r2_12, r2_13, r2_14, r2_17, am_li0, am_liS, am_laR0, h1, if_false, hw, h2, h3, true_and, up_same, up_up, fil_s, List.set_cons_succ, List.set_cons_zero, nI_1]
    exact a_fill_loop hq hn m (i + 1) (by omega) (by omega)
theorem a_fill {q n : Nat} {v : Int32} (hq : in_sk[q]? = some (.inl (0, n))) (hn : n < 2 ^ 31) : am_Call L xs d 2 [.ref q, .int v] (mk s) Q = Q none (mk (va_up s.1 q (fil n v (s.1 q)), s.2)) := by
  have hl : ∀ f : Int32 → Prop, am_ln (mk s) q f = f (Int32.ofNat n) := fun f => am_k_lnA (sk := in_sk) hq (by decide)
  have h := a_fill_loop (L := L) (xs := xs) (d := d) (s := s) (Q := Q) (v := v) hq hn n 0 (by omega) (by omega)
  rw [fil_0, up_self] at h
  simp only [e2, r2_0, r2_1, r2_2, r2_3, r2_4, am_laR0, hl, List.length_cons, List.length_nil, List.set_cons_succ, List.set_cons_zero, Nat.reduceAdd, Nat.reduceLT, true_and]
  exact h
theorem c_wipe {p n : Nat} (hF : isF p n) (hn : n < 2 ^ 31) : am_Call L xs (d + 1) 15 [.ref p] (mk s) Q = Q none (mk (va_up s.1 (p + 1) (fil n (-2) (s.1 (p + 1))), am_u2 s.2.1 p 4 0, s.2.2)) := by
  simp only [e15, r15_0, r15_1, r15_4, r15_6, r15_9, r15_10, r15_11, r15_14, am_laR0, f_par hF, a_fill hF.2.1 hn, fv_used hF, am_tN, am_okI, am_okR, List.length_nil, Nat.zero_le, and_true, true_and]
theorem c_size1 {j : Nat} (h : j < 3) : am_Call L xs (d + 1) 16 [.ref 0, .int (nI j)] (mk s) Q = Q (some (.int (s.2.1 (2 + 5 * j) 4))) (mk s) := by
  have h1 : ¬ (1 : Int32) = 0 := by decide
  simp only [e16, r16_0, r16_1, r16_4, r16_7, r16_8, r16_11, r16_12, r16_13, r16_16, r16_19, r16_20, am_li0, am_liS, am_laR0, c_isTree1 h, am_tL, h1, if_false, g0_0, t_tree h, f_used (isF_t h), am_okI, List.length_nil, Nat.zero_le, and_true, true_and]
theorem c_size0 {t : Int32} (h : t < 0 ∨ 3 ≤ t) : am_Call L xs (d + 1) 16 [.ref 0, .int t] (mk s) Q = Q (some (.int (-1))) (mk s) := by
  simp only [e16, r16_0, r16_1, r16_4, r16_7, r16_8, r16_11, r16_12, r16_13, r16_16, r16_19, r16_20, am_li0, am_liS, am_laR0, c_isTree0 h, am_tL, if_true, am_okI, List.length_nil, Nat.zero_le, and_true, true_and]
theorem m_size1 {j : Nat} (h : j < 3) : am_Call L xs (d + 1) 88 [.ref 121, .int (nI j)] (mk s) Q = Q (some (.int (s.1 122 j))) (mk s) := by
  have h1 : ¬ (1 : Int32) = 0 := by decide
  have h2 : am_in (nI j) 4 = true := in_of (by omega) (by decide)
  have h3 : (nI j).toNatClampNeg = j := nI_clamp (by omega)
  simp only [e88, r88_0, r88_1, r88_4, r88_7, r88_8, r88_11, r88_12, r88_13, r88_16, r88_17, am_li0, am_liS, am_laR0, m_isTree1 h, am_tL, h1, if_false, g121_0, a122, h2, h3, am_okI, List.length_nil, Nat.zero_le, and_true, true_and]
theorem m_size0 {t : Int32} (h : t < 0 ∨ 3 ≤ t) : am_Call L xs (d + 1) 88 [.ref 121, .int t] (mk s) Q = Q (some (.int (-1))) (mk s) := by
  simp only [e88, r88_0, r88_1, r88_4, r88_7, r88_8, r88_11, r88_12, r88_13, r88_16, r88_17, am_li0, am_liS, am_laR0, m_isTree0 h, am_tL, if_true, am_okI, List.length_nil, Nat.zero_le, and_true, true_and]
theorem c_clear1 {j : Nat} (h : j < 3) : am_Call L xs (d + 2) 14 [.ref 0, .int (nI j)] (mk s) Q = Q (some (.int 1)) (mk (va_up s.1 (2 + 5 * j + 1) (fil 12 (-2) (s.1 (2 + 5 * j + 1))), am_u2 s.2.1 (2 + 5 * j) 4 0, s.2.2)) := by
  have h1 : ¬ (1 : Int32) = 0 := by decide
  simp only [e14, r14_0, r14_1, r14_4, r14_7, r14_8, r14_9, r14_10, r14_13, r14_14, r14_15, r14_18, r14_19, am_li0, am_liS, am_laR0, c_isTree1 h, am_tL, am_tN, h1, not_false_eq_true, if_true, g0_0, t_tree h, f_oc (isF_t h), c_wipe (isF_t h) (by decide), am_okI, List.length_nil, Nat.zero_le, and_true, true_and, or_true, eq_self]
theorem c_clear0 {t : Int32} (h : t < 0 ∨ 3 ≤ t) : am_Call L xs (d + 2) 14 [.ref 0, .int t] (mk s) Q = Q (some (.int 0)) (mk s) := by
  simp only [e14, r14_0, r14_1, r14_4, r14_7, r14_8, r14_9, r14_10, r14_13, r14_14, r14_15, r14_18, r14_19, am_li0, am_liS, am_laR0, c_isTree0 h, am_tL, not_true, if_false, am_okI, List.length_nil, Nat.zero_le, and_true, true_and, true_or, eq_self]
theorem m_clear1 {j : Nat} (h : j < 3) : am_Call L xs (d + 1) 87 [.ref 121, .int (nI j)] (mk s) Q = Q (some (.int 1)) (mk (va_up s.1 122 (upd (s.1 122) j 0), s.2)) := by
  have h1 : ¬ (1 : Int32) = 0 := by decide
  have h2 : am_in (nI j) 4 = true := in_of (by omega) (by decide)
  have h3 : (nI j).toNatClampNeg = j := nI_clamp (by omega)
  simp only [e87, r87_0, r87_1, r87_4, r87_7, r87_8, r87_9, r87_10, r87_13, r87_14, r87_15, r87_16, r87_17, am_li0, am_liS, am_laR0, m_isTree1 h, am_tL, h1, not_false_eq_true, if_true, g121_0, w122, h2, h3, am_okI, List.length_nil, Nat.zero_le, and_true, true_and, or_true, eq_self]
theorem m_clear0 {t : Int32} (h : t < 0 ∨ 3 ≤ t) : am_Call L xs (d + 1) 87 [.ref 121, .int t] (mk s) Q = Q (some (.int 0)) (mk s) := by
  simp only [e87, r87_0, r87_1, r87_4, r87_7, r87_8, r87_9, r87_10, r87_13, r87_14, r87_15, r87_16, r87_17, am_li0, am_liS, am_laR0, m_isTree0 h, am_tL, not_true, if_false, am_okI, List.length_nil, Nat.zero_le, and_true, true_and, true_or, eq_self]
end
