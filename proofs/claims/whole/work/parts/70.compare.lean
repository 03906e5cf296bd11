/-! The reference's child, compare, alike; the class's alike -/
theorem ad_m1 (m : Nat) : nI m + -1 = nI m - 1 := by rw [Int32.sub_eq_add_neg]
theorem nb_bI (b : Bool) : vp_nar .boolean (bI b) = bI b := by cases b <;> rfl
/-- same[], where the rows from x on are done, and in row x those from y on -/
def smP (t w : Tr) (x y : Nat) (g : Nat → Int32) : Prop := ∀ a c, a < t.1 → c < w.1 → (x < a ∨ (x = a ∧ y ≤ c)) → g (12 * a + c) = bI (alN t w a c)
section
variable {L : Nat} {xs : Nat → Int32} {d : Nat} {s : St}
theorem m_child_loop {j : Nat} {t : Tr} (h : j < 3) (hm : mT s j t) (hw : tW t) {x k : Nat} (hx : x < 12) (hk : k < 2 ^ 31) {Q : Option Value → am_S → Prop} {v3 : Value} : ∀ (m i : Nat), t.1 - i = m → i ≤ t.1 → cnt t.2.1 (nI x) i ≤ k →
    am_Rn L xs d 92 8 [.ref 121, .int (nI j), .int (nI x), v3, .int (nI (k - cnt t.2.1 (nI x) i)), .int (nI i)] [] (mk s) Q = Q (some (.int (oI (kd t x k)))) (mk s)
  | 0, i, hmm, hi, hc => by
    have h12 := hw.1
    have e : i = t.1 := by omega
    subst e
    have h2 : am_in (nI j) 4 = true := in_of (by omega) (by decide)
    have h3 : (nI j).toNatClampNeg = j := nI_clamp (by omega)
    have h4 : nI t.1 ≤ nI t.1 := nI_le (Nat.le_refl _) (by omega)
    rw [kd_ge hw (by omega) hk hc, r92_8]
    simp only [r92_10, r92_11, r92_14, r92_15, r92_16, r92_52, r92_53, am_li0, am_liS, am_laR0, g121_0, a122, h2, h3, hm.1, h4, if_true, true_and, oI]
  | m + 1, i, hmm, hi, hc => by
    have h12 := hw.1
    have h2 : am_in (nI j) 4 = true := in_of (by omega) (by decide)
    have h3 : (nI j).toNatClampNeg = j := nI_clamp (by omega)
    have h4 : ¬ nI t.1 ≤ nI i := nI_ge (by omega) (by omega)
    have e12 : (12 : Int32) * nI j + nI i = nI (12 * j + i) := by
      show nI 12 * nI j + nI i = _
      rw [pk_mul, nI_add]
    have h6 : am_in (nI (12 * j + i)) 48 = true := in_of (by omega) (by decide)
    have h7 : (nI (12 * j + i)).toNatClampNeg = 12 * j + i := nI_clamp (by omega)
    have h8 := (hm.2 i (by omega)).1
    rw [r92_8]
    by_cases he : t.2.1 i = nI x
    · by_cases hz : cnt t.2.1 (nI x) i = k
      · have h9 : nI (k - cnt t.2.1 (nI x) i) = 0 := by rw [hz, Nat.sub_self]; rfl
        rw [kd_of hw (by omega) he hz (by omega)]
        simp only [r92_10, r92_11, r92_14, r92_15, r92_16, r92_19, r92_20, r92_23, r92_25, r92_26, r92_27, r92_29, r92_30, r92_31, r92_32, r92_35, r92_37, r92_40, r92_42, am_li0, am_liS, am_laR0, g121_0, g121_1, a122, a123, e12, h2, h3, h4, h6, h7, h8, he, h9, hm.1, not_true, if_false, true_and, oI]
      · obtain ⟨r, hr⟩ : ∃ r, k - cnt t.2.1 (nI x) i = r + 1 := ⟨k - cnt t.2.1 (nI x) i - 1, by omega⟩
        have h9 : ¬ nI (r + 1) = 0 := nI_ne0 (by omega) (by omega)
        have e9 : nI (r + 1) + -1 = nI r := pk_m1 r
        have ih := m_child_loop h hm hw hx hk (Q := Q) (v3 := v3) m (i + 1) (by omega) (by omega) (by rw [cnt_s, if_pos he]; omega)
        have er : k - cnt t.2.1 (nI x) (i + 1) = r := by rw [cnt_s, if_pos he]; omega
        rw [er] at ih
        rw [hr]
        simp only [r92_10, r92_11, r92_14, r92_15, r92_16, r92_19, r92_20, r92_23, r92_25, r92_26, r92_27, r92_29, r92_30, r92_31, r92_32, r92_35, r92_37, r92_43, r92_46, r92_49, am_li0, am_liS, am_laR0, g121_0, g121_1, a122, a123, e12, h2, h3, h4, h6, h7, h8, he, h9, e9, nI_1, hm.1, not_true, not_false_eq_true, if_true, if_false, true_and, List.set_cons_succ, List.set_cons_zero]
        exact ih
    · have ih := m_child_loop h hm hw hx hk (Q := Q) (v3 := v3) m (i + 1) (by omega) (by omega) (by rw [cnt_s, if_neg he]; omega)
      have er : cnt t.2.1 (nI x) (i + 1) = cnt t.2.1 (nI x) i := by rw [cnt_s, if_neg he]; rfl
      rw [er] at ih
      simp only [r92_10, r92_11, r92_14, r92_15, r92_16, r92_19, r92_20, r92_23, r92_25, r92_26, r92_27, r92_29, r92_30, r92_31, r92_32, r92_46, r92_49, am_li0, am_liS, am_laR0, g121_0, g121_1, a122, a123, e12, h2, h3, h4, h6, h7, h8, he, nI_1, hm.1, not_false_eq_true, if_true, if_false, true_and, List.set_cons_succ, List.set_cons_zero]
      exact ih
theorem m_child {j : Nat} {t : Tr} (h : j < 3) (hm : mT s j t) (hw : tW t) {x k : Nat} (hx : x < t.1) (hk : k < 2 ^ 31) {Q : Option Value → am_S → Prop} : am_Call L xs d 92 [.ref 121, .int (nI j), .int (nI x), .int (nI k)] (mk s) Q = Q (some (.int (oI (kd t x k)))) (mk s) := by
  have h12 := hw.1
  have hz : cnt t.2.1 (nI x) (x + 1) = 0 := by
    have : ∀ n, n ≤ x + 1 → cnt t.2.1 (nI x) n = 0 := by
      intro n
      induction n with
      | zero => intro _; rfl
      | succ n ih =>
        intro hn
        rw [cnt_s, ih (by omega), if_neg]
        rcases hw.2 n (by omega) with ⟨-, e⟩ | ⟨m', hm', e⟩
        · rw [e]; exact fun q => nI_m1 x (by omega) q.symm
        · rw [e]
          intro q
          have := (nI_eq (by omega) (by omega)).mp q
          omega
    exact this _ (Nat.le_refl _)
  have hl := m_child_loop (L := L) (xs := xs) (d := d) h hm hw (x := x) (by omega) hk (Q := Q) (v3 := .int (nI k)) (t.1 - (x + 1)) (x + 1) rfl (by omega) (by omega)
  rw [hz, Nat.sub_zero] at hl
  simp only [e92, r92_0, r92_1, r92_3, r92_4, r92_5, r92_6, am_li0, am_liS, nI_1, List.length_cons, List.length_nil, List.set_cons_succ, List.set_cons_zero, Nat.reduceAdd, Nat.reduceLT, true_and]
  exact hl
theorem oI_some (n : Nat) : oI (some n) = nI n := rfl
theorem oI_none : oI none = -1 := rfl
/-- the children one by one -/
theorem m_cmp_loop {j j' : Nat} {t w : Tr} (h : j < 3) (h' : j' < 3) (hm : mT s j t) (hm' : mT s j' w) (hw : tW t) (hw' : tW w) {x y : Nat} (hx : x < t.1) (hy : y < w.1) (hg : smP t w x 12 (s.1 128)) : ∀ (m k : Nat), kc t x - k = m → k ≤ kc t x → k ≤ kc w y →
    ∃ v6 v7 v8 : Value, ∀ Q : Option Value → am_S → Prop, am_Rn L xs (d + 1) 91 109 [.ref 121, .int (nI j), .int (nI j'), .int (nI x), .int (nI y), .int 1, .int (oI (kd t x k)), .int (oI (kd w y k)), .int (nI (k + 1))] [] (mk s) Q =
    am_Rn L xs (d + 1) 91 191 [.ref 121, .int (nI j), .int (nI j'), .int (nI x), .int (nI y), .int (bI (decide (kc t x = kc w y) && allF (fun i => kB (alN t w) (kd t x i) (kd w y i)) m k)), v6, v7, v8] [] (mk s) Q := by
  have h12 := hw.1
  have h12' := hw'.1
  have k1 := kc_lt hw hx
  have k2 := kc_lt hw' hy
  have m1n : ¬ (0 : Int32) ≤ -1 := by decide
  have m1l : (-1 : Int32) < 0 := by decide
  have n1 : ¬ (1 : Int32) = 0 := by decide
  have b0 : bI false = 0 := rfl
  have b1 : bI true = 1 := rfl
  -- one more round, when it has failed
  have fail : ∀ (k : Nat) (a c : Int32), k + 2 ≤ 13 → ∀ Q : Option Value → am_S → Prop, am_Rn L xs (d + 1) 91 109 [.ref 121, .int (nI j), .int (nI j'), .int (nI x), .int (nI y), .int 0, .int a, .int c, .int (nI (k + 2))] [] (mk s) Q = am_Rn L xs (d + 1) 91 191 [.ref 121, .int (nI j), .int (nI j'), .int (nI x), .int (nI y), .int 0, .int a, .int c, .int (nI (k + 2))] [] (mk s) Q := by
    intro k a c hk Q
    rw [r91_109]
    by_cases e : (13 : Int32) ≤ nI (k + 2)
    · simp only [r91_111, r91_113, am_li0, am_liS, e, if_true]
    · simp only [r91_111, r91_113, r91_116, r91_118, am_li0, am_liS, e, if_true, if_false]
  intro m
  induction m with
  | zero =>
    intro k hmm hk hk'
    have e : k = kc t x := by omega
    subst e
    have h13 : ¬ (13 : Int32) ≤ nI (kc t x + 1) := nI_ge (b := 13) (by omega) (by decide)
    have ex := kd_ge hw (x := x) (k := kc t x) (by omega) (by omega) (Nat.le_refl _)
    by_cases hq : kc t x = kc w y
    · have ey := kd_ge hw' (x := y) (k := kc t x) (by omega) (by omega) (by omega)
      refine ⟨.int (-1), .int (-1), .int (nI (kc t x + 1)), fun Q => ?_⟩
      rw [ex, ey, oI_none, decide_eq_true hq]
      rw [r91_109]
      simp only [r91_111, r91_113, r91_116, r91_118, r91_121, r91_123, r91_126, r91_128, am_li0, am_liS, h13, n1, m1n, m1l, if_true, if_false, allF, Bool.and_self, b1]
    · obtain ⟨b, eb, -, -⟩ := kd_lt hw' (x := y) (k := kc t x) (by omega) (by omega)
      obtain ⟨hb1, -⟩ := kd_some hw' (x := y) (by omega) (by omega) eb
      have hb : ¬ nI b < 0 := nI_pos (by omega)
      refine ⟨.int (oI (kd t x (kc t x + 1))), .int (oI (kd w y (kc t x + 1))), .int (nI (kc t x + 2)), fun Q => ?_⟩
      have hf := fail (kc t x) (oI (kd t x (kc t x + 1))) (oI (kd w y (kc t x + 1))) (by omega) Q
      rw [ex, eb, oI_none, oI_some, decide_eq_false hq, Bool.false_and, b0, ← hf]
      rw [r91_109]
      simp only [r91_111, r91_113, r91_116, r91_118, r91_121, r91_123, r91_126, r91_128, r91_131, r91_133, r91_136, r91_138, r91_161, r91_162, r91_164, r91_165, r91_166, r91_167, r91_169, r91_172, r91_174, r91_175, r91_176, r91_178, r91_180, r91_183, r91_185, r91_188, am_li0, am_liS, am_laR0, m_oc, m_child h hm hw hx (show kc t x + 1 < 2 ^ 31 by omega), m_child h' hm' hw' hy (show kc t x + 1 < 2 ^ 31 by omega), h13, n1, m1n, m1l, hb, nI_1, am_tL, am_okI, if_true, if_false, List.length_cons, List.length_nil, List.set_cons_succ, List.set_cons_zero, Nat.reduceAdd, Nat.reduceLT, Nat.zero_le, and_true, true_and]
  | succ m ih =>
    intro k hmm hk hk'
    have h13 : ¬ (13 : Int32) ≤ nI (k + 1) := nI_ge (b := 13) (by omega) (by decide)
    obtain ⟨a, ea, a1, a2⟩ := kd_lt hw (x := x) (k := k) (by omega) (by omega)
    have ha : ¬ nI a < 0 := nI_pos (by omega)
    have ha' : (0 : Int32) ≤ nI a := Int32.not_lt.mp ha
    have mc1 := fun Q => m_child (L := L) (xs := xs) (d := d) h hm hw hx (k := k + 1) (by omega) (Q := Q)
    have mc2 := fun Q => m_child (L := L) (xs := xs) (d := d) h' hm' hw' hy (k := k + 1) (by omega) (Q := Q)
    have hf := fail k (oI (kd t x (k + 1))) (oI (kd w y (k + 1))) (by omega)
    by_cases hky : k < kc w y
    · obtain ⟨b, eb, b1', b2⟩ := kd_lt hw' (x := y) (k := k) (by omega) hky
      have hb : ¬ nI b < 0 := nI_pos (by omega)
      have hS := hg a b a1 b1' (Or.inl a2)
      have e12 : (12 : Int32) * nI a + nI b = nI (12 * a + b) := by
        show nI 12 * nI a + nI b = _
        rw [pk_mul, nI_add]
      have h6 : am_in (nI (12 * a + b)) 144 = true := in_of (by omega) (by decide)
      have h7 : (nI (12 * a + b)).toNatClampNeg = 12 * a + b := nI_clamp (by omega)
      cases hb3 : alN t w a b with
      | true =>
        obtain ⟨v6, v7, v8, hr⟩ := ih (k + 1) (by omega) (by omega) hky
        refine ⟨v6, v7, v8, fun Q => ?_⟩
        rw [hb3, b1] at hS
        rw [allF_s, ea, eb, oI_some, oI_some]
        rw [kB_ss, hb3, Bool.true_and, ← hr Q]
        rw [r91_109]
        simp only [r91_111, r91_113, r91_116, r91_118, r91_121, r91_123, r91_131, r91_133, r91_136, r91_138, r91_141, r91_142, r91_145, r91_147, r91_149, r91_150, r91_152, r91_153, r91_154, r91_157, r91_158, r91_162, r91_164, r91_165, r91_166, r91_167, r91_169, r91_172, r91_174, r91_175, r91_176, r91_178, r91_180, r91_183, r91_185, r91_188, am_li0, am_liS, am_laR0, m_oc, mc1, mc2, g121_6, a128, e12, h6, h7, hS, h13, n1, ha, ha', hb, nI_1, am_tL, am_okI, if_true, if_false, List.length_cons, List.length_nil, List.set_cons_succ, List.set_cons_zero, Nat.reduceAdd, Nat.reduceLT, Nat.zero_le, and_true, true_and]
      | false =>
        refine ⟨.int (oI (kd t x (k + 1))), .int (oI (kd w y (k + 1))), .int (nI (k + 2)), fun Q => ?_⟩
        rw [hb3, b0] at hS
        rw [allF_s, ea, eb, oI_some, oI_some]
        rw [kB_ss, hb3, Bool.false_and, Bool.and_false, b0, ← hf Q]
        rw [r91_109]
        simp only [r91_111, r91_113, r91_116, r91_118, r91_121, r91_123, r91_131, r91_133, r91_136, r91_138, r91_141, r91_142, r91_145, r91_147, r91_149, r91_150, r91_152, r91_153, r91_154, r91_161, r91_162, r91_164, r91_165, r91_166, r91_167, r91_169, r91_172, r91_174, r91_175, r91_176, r91_178, r91_180, r91_183, r91_185, r91_188, am_li0, am_liS, am_laR0, m_oc, mc1, mc2, g121_6, a128, e12, h6, h7, hS, h13, n1, ha, ha', hb, nI_1, am_tL, am_okI, if_true, if_false, List.length_cons, List.length_nil, List.set_cons_succ, List.set_cons_zero, Nat.reduceAdd, Nat.reduceLT, Nat.zero_le, and_true, true_and]
    · have hq : ¬ kc t x = kc w y := by omega
      have ey := kd_ge hw' (x := y) (k := k) (by omega) (by omega) (by omega)
      refine ⟨.int (oI (kd t x (k + 1))), .int (oI (kd w y (k + 1))), .int (nI (k + 2)), fun Q => ?_⟩
      rw [decide_eq_false hq, Bool.false_and, ea, ey, oI_some, oI_none, b0, ← hf Q]
      rw [r91_109]
      simp only [r91_111, r91_113, r91_116, r91_118, r91_121, r91_123, r91_131, r91_133, r91_136, r91_138, r91_161, r91_162, r91_164, r91_165, r91_166, r91_167, r91_169, r91_172, r91_174, r91_175, r91_176, r91_178, r91_180, r91_183, r91_185, r91_188, am_li0, am_liS, am_laR0, m_oc, mc1, mc2, h13, n1, ha, ha', m1l, nI_1, am_tL, am_okI, if_true, if_false, List.length_cons, List.length_nil, List.set_cons_succ, List.set_cons_zero, Nat.reduceAdd, Nat.reduceLT, Nat.zero_le, and_true, true_and]
end
