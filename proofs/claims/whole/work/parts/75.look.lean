/-! The reference's isBelow, look, share -/
/-- b is there and below a -/
def LF (t : Tr) (a b : Nat) : Bool := decide (b < t.1) && bl t a b
/-- how many are below a, among the first n -/
def cB (t : Tr) (a : Nat) : Nat → Nat
  | 0 => 0
  | n + 1 => cB t a n + (if LF t a n = true then 1 else 0)
theorem cB_s (t : Tr) (a n : Nat) : cB t a (n + 1) = cB t a n + (if LF t a n = true then 1 else 0) := rfl
theorem cB_le (t : Tr) (a : Nat) : ∀ n, cB t a n ≤ n
  | 0 => Nat.le_refl _
  | n + 1 => by
    have := cB_le t a n
    rw [cB_s]
    split <;> omega
def tal (t : Tr) (H : Nat → Nat) (a : Nat) : Nat := if a < t.1 then H a else 0
/-- rows before a are looked up, and in row a those before k -/
def lkI (t w : Tr) (H : Nat → Nat) (a k : Nat) (s : St) : Prop := (∀ x y, x < 12 → y < 12 → (x < a ∨ (x = a ∧ y < k)) → s.1 129 (12 * x + y) = bI (LF t x y) ∧ s.1 130 (12 * x + y) = bI (LF w x y)) ∧ ∀ x, x < a → s.1 131 x = nI (cB t x 12) ∧ s.1 132 x = nI (cB w x 12) ∧ s.1 133 x = nI (tal t H x)
def frK (s s' : St) : Prop := (∀ q, ¬ (129 ≤ q ∧ q ≤ 133) → s'.1 q = s.1 q) ∧ s'.2 = s.2
section
variable {L : Nat} {xs : Nat → Int32} {d : Nat} {s : St} {Q : Option Value → am_S → Prop}
theorem m_up {j : Nat} {t : Tr} (h : j < 3) (hm : mT s j t) (hw : tW t) {a : Nat} (ha : a < 12) {x : Int32} : ∀ (v : Nat), v < t.1 → ∃ v' : Nat, v' ≤ a ∧ (v' = a ↔ (lev t a v).isSome = true) ∧
    ∀ Q : Option Value → am_S → Prop, am_Rn L xs d 97 3 [.ref 121, .int (nI j), .int x, .int (nI a), .int (nI v)] [] (mk s) Q = am_Rn L xs d 97 26 [.ref 121, .int (nI j), .int x, .int (nI a), .int (nI v')] [] (mk s) Q := by
  intro v
  induction v using Nat.strongRecOn with
  | ind v ih =>
    intro hv
    have h12 := hw.1
    by_cases hva : v ≤ a
    · refine ⟨v, hva, ?_, fun Q => ?_⟩
      · by_cases e : v = a
        · rw [e, lev_self]; exact ⟨fun _ => rfl, fun _ => rfl⟩
        · rw [lev_lt t (by omega)]
          exact ⟨fun q => absurd q e, fun q => absurd q (by decide)⟩
      · have h1 : nI v ≤ nI a := nI_le hva (by omega)
        rw [r97_3]
        simp only [r97_5, r97_6, am_li0, am_liS, h1, if_true]
    · have hp := pm_lt t (show 0 < v by omega)
      have hpe := pm_eq hw (show 0 < v by omega) hv
      obtain ⟨v', g1, g2, g3⟩ := ih (pm t v) hp (by omega)
      refine ⟨v', g1, ?_, fun Q => ?_⟩
      · rw [g2, lev_gt t (show a < v by omega)]
        cases lev t a (pm t v) with
        | none => exact Iff.rfl
        | some k => exact Iff.rfl
      · rw [← g3 Q]
        have h1 : ¬ nI v ≤ nI a := nI_ge (by omega) (by omega)
        have e12 : (12 : Int32) * nI j + nI v = nI (12 * j + v) := by
          show nI 12 * nI j + nI v = _
          rw [pk_mul, nI_add]
        have h6 : am_in (nI (12 * j + v)) 48 = true := in_of (by omega) (by decide)
        have h7 : (nI (12 * j + v)).toNatClampNeg = 12 * j + v := nI_clamp (by omega)
        have h8 : s.1 123 (12 * j + v) = nI (pm t v) := (hm.2 v hv).1.trans hpe
        rw [r97_3]
        simp only [r97_5, r97_6, r97_9, r97_10, r97_13, r97_15, r97_16, r97_17, r97_19, r97_20, r97_21, r97_23, am_li0, am_liS, am_laR0, g121_1, a123, e12, h1, h6, h7, h8, if_false, List.length_cons, List.length_nil, List.set_cons_succ, List.set_cons_zero, Nat.reduceAdd, Nat.reduceLT, true_and]
theorem m_isBelow {j : Nat} {t : Tr} (h : j < 3) (hm : mT s j t) (hw : tW t) {a n : Nat} (ha : a < 12) (hn : n < t.1) : am_Call L xs d 97 [.ref 121, .int (nI j), .int (nI n), .int (nI a)] (mk s) Q = Q (some (.int (bI (bl t a n)))) (mk s) := by
  have h12 := hw.1
  obtain ⟨v', g1, g2, g3⟩ := m_up (L := L) (xs := xs) (d := d) h hm hw ha (x := nI n) n hn
  have b0 : bI false = 0 := rfl
  have b1 : bI true = 1 := rfl
  simp only [e97, r97_0, r97_1, am_li0, am_liS, g3, List.length_cons, List.length_nil, List.set_cons_succ, List.set_cons_zero, Nat.reduceAdd, Nat.reduceLT, true_and]
  by_cases e : v' = a
  · have hs := g2.mp e
    subst e
    by_cases e2 : n = v'
    · have hb : bl t v' n = false := by unfold bl; rw [decide_eq_false (by omega), Bool.false_and]
      subst e2
      simp only [r97_26, r97_28, r97_29, r97_32, r97_33, r97_34, r97_41, r97_42, am_li0, am_liS, not_true, if_true, if_false, hb, b0, true_or, eq_self]
    · have hlt : v' < n := by
        by_cases q : n < v'
        · rw [lev_lt t q] at hs; exact absurd hs (by decide)
        · omega
      have hb : bl t v' n = true := by unfold bl; rw [decide_eq_true hlt, hs]; rfl
      have h1 : ¬ nI n = nI v' := fun q => e2 ((nI_eq (by omega) (by omega)).mp q)
      simp only [r97_26, r97_28, r97_29, r97_32, r97_33, r97_34, r97_37, r97_38, r97_41, r97_42, am_li0, am_liS, not_true, h1, if_false, hb, b1, or_true, eq_self]
  · have hb : bl t a n = false := by
      unfold bl
      cases hl : (lev t a n).isSome with
      | true => exact absurd (g2.mpr hl) e
      | false => exact Bool.and_false _
    have h1 : ¬ nI v' = nI a := fun q => e ((nI_eq (by omega) (by omega)).mp q)
    simp only [r97_26, r97_28, r97_29, r97_41, r97_42, am_li0, am_liS, h1, not_false_eq_true, if_true, hb, b0, true_or, eq_self]
theorem m_lk1 {j : Nat} {t : Tr} (h : j < 3) (hm : mT s j t) (hw : tW t) (hj : s.2.1 121 16 = nI j) {a k : Nat} (ha : a < 12) (hk : k < 12) : am_Rn L xs (d + 1) 96 62 [.ref 121, .int (nI a), .int (nI k)] [] (mk s) Q = am_Rn L xs (d + 1) 96 103 [.ref 121, .int (nI a), .int (nI k)] [.int (bI (LF t a k)), .int (nI (12 * a + k)), .ref 129] (mk s) Q := by
  have h12 := hw.1
  have h2 : am_in (nI j) 4 = true := in_of (by omega) (by decide)
  have h3 : (nI j).toNatClampNeg = j := nI_clamp (by omega)
  have e1 : (12 : Int32) * nI a + nI k = nI (12 * a + k) := by
    show nI 12 * nI a + nI k = _
    rw [pk_mul, nI_add]
  have b0 : bI false = 0 := rfl
  have b1 : bI true = 1 := rfl
  have n1 : ¬ (1 : Int32) = 0 := by decide
  by_cases hkt : k < t.1
  · have h4 : ¬ nI t.1 ≤ nI k := nI_ge hkt (by omega)
    have hi := fun Q => m_isBelow (L := L) (xs := xs) (d := d) h hm hw ha hkt (Q := Q)
    cases hb : bl t a k with
    | false =>
      rw [hb] at hi
      have hl : LF t a k = false := by unfold LF; rw [hb, Bool.and_false]
      simp only [r96_62, r96_63, r96_66, r96_68, r96_69, r96_70, r96_71, r96_72, r96_73, r96_74, r96_77, r96_78, r96_81, r96_82, r96_85, r96_86, r96_87, r96_90, r96_91, r96_92, r96_95, r96_102, am_li0, am_liS, am_laR0, m_oc, g121_7, g121_0, g121_16, a122, hj, h2, h3, h4, e1, hm.1, hi, hl, b0, am_tL, am_okI, if_true, if_false, List.length_cons, List.length_nil, Nat.reduceAdd, Nat.reduceLeDiff, and_true, true_and]
    | true =>
      rw [hb] at hi
      have hl : LF t a k = true := by unfold LF; rw [hb, decide_eq_true hkt]; rfl
      simp only [r96_62, r96_63, r96_66, r96_68, r96_69, r96_70, r96_71, r96_72, r96_73, r96_74, r96_77, r96_78, r96_81, r96_82, r96_85, r96_86, r96_87, r96_90, r96_91, r96_92, r96_95, r96_98, r96_99, am_li0, am_liS, am_laR0, m_oc, g121_7, g121_0, g121_16, a122, hj, h2, h3, h4, e1, hm.1, hi, hl, b1, n1, am_tL, am_okI, if_true, if_false, List.length_cons, List.length_nil, Nat.reduceAdd, Nat.reduceLeDiff, and_true, true_and]
  · have h4 : nI t.1 ≤ nI k := nI_le (by omega) (by omega)
    have hl : LF t a k = false := by unfold LF; rw [decide_eq_false hkt, Bool.false_and]
    simp only [r96_62, r96_63, r96_66, r96_68, r96_69, r96_70, r96_71, r96_72, r96_73, r96_74, r96_77, r96_78, r96_81, r96_82, r96_102, am_li0, am_liS, am_laR0, g121_7, g121_0, g121_16, a122, hj, h2, h3, h4, e1, hm.1, hl, b0, if_true, true_and]
theorem m_lk2 {j : Nat} {t : Tr} (h : j < 3) (hm : mT s j t) (hw : tW t) (hj : s.2.1 121 17 = nI j) {a k : Nat} (ha : a < 12) (hk : k < 12) : am_Rn L xs (d + 1) 96 104 [.ref 121, .int (nI a), .int (nI k)] [] (mk s) Q = am_Rn L xs (d + 1) 96 145 [.ref 121, .int (nI a), .int (nI k)] [.int (bI (LF t a k)), .int (nI (12 * a + k)), .ref 130] (mk s) Q := by
  have h12 := hw.1
  have h2 : am_in (nI j) 4 = true := in_of (by omega) (by decide)
  have h3 : (nI j).toNatClampNeg = j := nI_clamp (by omega)
  have e1 : (12 : Int32) * nI a + nI k = nI (12 * a + k) := by
    show nI 12 * nI a + nI k = _
    rw [pk_mul, nI_add]
  have b0 : bI false = 0 := rfl
  have b1 : bI true = 1 := rfl
  have n1 : ¬ (1 : Int32) = 0 := by decide
  by_cases hkt : k < t.1
  · have h4 : ¬ nI t.1 ≤ nI k := nI_ge hkt (by omega)
    have hi := fun Q => m_isBelow (L := L) (xs := xs) (d := d) h hm hw ha hkt (Q := Q)
    cases hb : bl t a k with
    | false =>
      rw [hb] at hi
      have hl : LF t a k = false := by unfold LF; rw [hb, Bool.and_false]
      simp only [r96_104, r96_105, r96_108, r96_110, r96_111, r96_112, r96_113, r96_114, r96_115, r96_116, r96_119, r96_120, r96_123, r96_124, r96_127, r96_128, r96_129, r96_132, r96_133, r96_134, r96_137, r96_144, am_li0, am_liS, am_laR0, m_oc, g121_8, g121_0, g121_17, a122, hj, h2, h3, h4, e1, hm.1, hi, hl, b0, am_tL, am_okI, if_true, if_false, List.length_cons, List.length_nil, Nat.reduceAdd, Nat.reduceLeDiff, and_true, true_and]
    | true =>
      rw [hb] at hi
      have hl : LF t a k = true := by unfold LF; rw [hb, decide_eq_true hkt]; rfl
      simp only [r96_104, r96_105, r96_108, r96_110, r96_111, r96_112, r96_113, r96_114, r96_115, r96_116, r96_119, r96_120, r96_123, r96_124, r96_127, r96_128, r96_129, r96_132, r96_133, r96_134, r96_137, r96_140, r96_141, am_li0, am_liS, am_laR0, m_oc, g121_8, g121_0, g121_17, a122, hj, h2, h3, h4, e1, hm.1, hi, hl, b1, n1, am_tL, am_okI, if_true, if_false, List.length_cons, List.length_nil, Nat.reduceAdd, Nat.reduceLeDiff, and_true, true_and]
  · have h4 : nI t.1 ≤ nI k := nI_le (by omega) (by omega)
    have hl : LF t a k = false := by unfold LF; rw [decide_eq_false hkt, Bool.false_and]
    simp only [r96_104, r96_105, r96_108, r96_110, r96_111, r96_112, r96_113, r96_114, r96_115, r96_116, r96_119, r96_120, r96_123, r96_124, r96_144, am_li0, am_liS, am_laR0, g121_8, g121_0, g121_17, a122, hj, h2, h3, h4, e1, hm.1, hl, b0, if_true, true_and]
end
