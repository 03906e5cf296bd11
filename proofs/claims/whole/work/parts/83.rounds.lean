/-! The rounds that join alike twigs, on both sides -/
/-- k rounds -/
def rnd (t w : Tr) (H : Nat → Nat) : Nat → Pr → Pr → Prop
  | 0, M, M' => M' = M
  | k + 1, M, M' => (bsA t w H M = none ∧ M' = M) ∨ ∃ q M1, bsA t w H M = some q ∧ jS (tw t w q.1 q.2.1 t.1) M M1 ∧ rnd t w H k M1 M'
theorem rnd_un {t w : Tr} {H : Nat → Nat} : ∀ {k : Nat} {M M1 M2 : Pr}, rnd t w H k M M1 → rnd t w H k M M2 → M1 = M2
  | 0, _, _, _, h1, h2 => by
    have h1 : _ = _ := h1
    have h2 : _ = _ := h2
    rw [h1, h2]
  | k + 1, M, M1, M2, h1, h2 => by
    rcases h1 with ⟨e1, h1⟩ | ⟨q1, N1, e1, j1, r1⟩
    · rcases h2 with ⟨-, h2⟩ | ⟨q2, N2, e2, -, -⟩
      · rw [h1, h2]
      · rw [e1] at e2; cases e2
    · rcases h2 with ⟨e2, h2⟩ | ⟨q2, N2, e2, j2, r2⟩
      · rw [e1] at e2; cases e2
      · rw [e1] at e2
        cases e2
        have := jS_un j1 j2
        subst this
        exact rnd_un r1 r2
section
variable {L : Nat} {xs : Nat → Int32} {d : Nat} {s : St}
theorem c_joinBest0 {P a b : Nat} {t w : Tr} {H : Nat → Nat} {M : Pr} (hQ : cQ s P a b t w H M) (h : bsA t w H M = none) {Q : Option Value → am_S → Prop} : am_Call L xs (d + 43) 28 [.ref P] (mk s) Q = Q (some (.int 0)) (mk s) := by
  obtain ⟨v6, v7, r⟩ := c_best_out (L := L) (xs := xs) (d := d + 41) hQ t.1 0 none (.retAddr 0) (.retAddr 0) (by omega) (by omega) (fun q hq => by cases hq)
  have r : am_Rn L xs (d + 43) 28 12 [.ref P, .int (-1), .int (-1), .int 0, .int 0, .int 0, .retAddr 0, .retAddr 0] [] (mk s) Q = am_Rn L xs (d + 43) 28 122 [.ref P, .int (bsXi (bsA t w H M)), .int (bsYi (bsA t w H M)), .int (nI (bsH (bsA t w H M))), .int (nI (bsS (bsA t w H M))), .int (nI t.1), v6, v7] [] (mk s) Q := r Q
  rw [h] at r
  have e1 : bsXi none = -1 := rfl
  rw [e1] at r
  simp only [e28, r28_0, r28_1, r28_2, r28_3, r28_4, r28_5, r28_6, r28_7, r28_9, r28_10, List.length_cons, List.length_nil, List.set_cons_succ, List.set_cons_zero, Nat.reduceAdd, Nat.reduceLT, true_and]
  rw [r]
  simp only [r28_122, r28_123, r28_124, r28_134, r28_135, r28_136, r28_143, r28_144, am_li0, am_liS, if_true, true_or, eq_self]
theorem c_joinBest1 {P a b : Nat} {t w : Tr} {H : Nat → Nat} {M : Pr} (hQ : cQ s P a b t w H M) {q : Nat × Nat × Nat × Nat} (h : bsA t w H M = some q) :
    ∃ (s' : St) (M' : Pr), cQ s' P a b t w H M' ∧ frJ P s s' ∧ jS (tw t w q.1 q.2.1 t.1) M M' ∧ ∀ Q : Option Value → am_S → Prop, am_Call L xs (d + 43) 28 [.ref P] (mk s) Q = Q (some (.int 1)) (mk s') := by
  have hw := hQ.2.2.2.2.2.1
  have hw' := hQ.2.2.2.2.2.2
  have h12 := hw.1
  have h12' := hw'.1
  have hH := hQ.2.1.2.2.2.2.2.2.2.2.1
  have hP := hQ.2.1.1
  obtain ⟨q1, q2, -, -, -, -, q3⟩ := bsA_W hw hH q h
  obtain ⟨s', M', r1, r2, r3, r4⟩ := c_joinTwigs (L := L) (xs := xs) (d := d) hw hw' 41 0 q.1 q.2.1 s M (by omega) (by omega) q1 q2 (frA_H q3).2.1 hQ
  refine ⟨s', M', r1, r2, r3, fun Q => ?_⟩
  have r4 : ∀ Q : Option Value → am_S → Prop, am_Call L xs (d + 42) 32 [.ref P, .int (nI q.1), .int (nI q.2.1), .int 0] (mk s) Q = Q none (mk s') := r4
  obtain ⟨v6, v7, r⟩ := c_best_out (L := L) (xs := xs) (d := d + 41) hQ t.1 0 none (.retAddr 0) (.retAddr 0) (by omega) (by omega) (fun q hq => by cases hq)
  have r : am_Rn L xs (d + 43) 28 12 [.ref P, .int (-1), .int (-1), .int 0, .int 0, .int 0, .retAddr 0, .retAddr 0] [] (mk s) Q = am_Rn L xs (d + 43) 28 122 [.ref P, .int (bsXi (bsA t w H M)), .int (bsYi (bsA t w H M)), .int (nI (bsH (bsA t w H M))), .int (nI (bsS (bsA t w H M))), .int (nI t.1), v6, v7] [] (mk s) Q := r Q
  rw [h] at r
  have e1 : bsXi (some q) = nI q.1 := rfl
  have e2 : bsYi (some q) = nI q.2.1 := rfl
  rw [e1, e2] at r
  have ne : ¬ nI q.1 = -1 := nI_m1 _ (by omega)
  simp only [e28, r28_0, r28_1, r28_2, r28_3, r28_4, r28_5, r28_6, r28_7, r28_9, r28_10, List.length_cons, List.length_nil, List.set_cons_succ, List.set_cons_zero, Nat.reduceAdd, Nat.reduceLT, true_and]
  rw [r]
  simp only [r28_122, r28_123, r28_124, r28_127, r28_128, r28_129, r28_130, r28_131, r28_134, r28_135, r28_136, r28_139, r28_140, r28_143, r28_144, am_li0, am_liS, am_laR0, p_oc hP, r4, ne, am_tN, am_okI, if_false, or_true, eq_self, List.length_nil, Nat.zero_le, and_true, true_and]
theorem c_rounds {P a b : Nat} {t w : Tr} {H : Nat → Nat} {v1 v2 : Value} : ∀ (m i : Nat) (s : St) (M : Pr), 12 - i = m → i ≤ 12 → cQ s P a b t w H M →
    ∃ (s' : St) (M' : Pr) (v3 v4 : Value), cQ s' P a b t w H M' ∧ frJ P s s' ∧ rnd t w H m M M' ∧ ∀ Q : Option Value → am_S → Prop, am_Rn L xs (d + 44) 25 68 [.ref P, v1, v2, .int 1, .int (nI i)] [] (mk s) Q = am_Rn L xs (d + 44) 25 90 [.ref P, v1, v2, v3, v4] [] (mk s') Q
  | 0, i, s, M, hm, hi, hQ => by
    have e : i = 12 := by omega
    subst e
    refine ⟨s, M, .int 1, .int (nI 12), hQ, frJ_refl P s, rfl, fun Q => ?_⟩
    have h1 : (12 : Int32) ≤ nI 12 := by decide
    rw [r25_68]
    simp only [r25_70, r25_72, am_li0, am_liS, h1, if_true]
  | m + 1, i, s, M, hm, hi, hQ => by
    have h1 : ¬ (12 : Int32) ≤ nI i := nI_ge (b := 12) (by omega) (by decide)
    have n1 : ¬ (1 : Int32) = 0 := by decide
    have hP := hQ.2.1.1
    cases hA : bsA t w H M with
    | none =>
      refine ⟨s, M, .int 0, .int (nI (i + 1)), hQ, frJ_refl P s, Or.inl ⟨hA, rfl⟩, fun Q => ?_⟩
      have hb := fun Q => c_joinBest0 (L := L) (xs := xs) (d := d) hQ hA (Q := Q)
      have go : am_Rn L xs (d + 44) 25 68 [.ref P, v1, v2, .int 1, .int (nI i)] [] (mk s) Q = am_Rn L xs (d + 44) 25 68 [.ref P, v1, v2, .int 0, .int (nI (i + 1))] [] (mk s) Q := by
        rw [r25_68]
        simp only [r25_70, r25_72, r25_75, r25_76, r25_79, r25_80, r25_83, r25_84, r25_87, am_li0, am_liS, am_laR0, p_oc hP, hb, h1, n1, nI_1, am_tL, if_false, List.length_cons, List.length_nil, List.set_cons_succ, List.set_cons_zero, Nat.reduceAdd, Nat.reduceLT, Nat.zero_le, and_true, true_and]
      rw [go, r25_68]
      by_cases e : (12 : Int32) ≤ nI (i + 1)
      · simp only [r25_70, r25_72, am_li0, am_liS, e, if_true]
      · simp only [r25_70, r25_72, r25_75, r25_76, am_li0, am_liS, e, if_true, if_false]
    | some q =>
      obtain ⟨s1, M1, r1, r2, r3, r4⟩ := c_joinBest1 (L := L) (xs := xs) (d := d) hQ hA
      obtain ⟨s2, M2, v3, v4, u1, u2, u3, u4⟩ := c_rounds m (i + 1) s1 M1 (by omega) (by omega) r1
      refine ⟨s2, M2, v3, v4, u1, frJ_trans r2 u2, Or.inr ⟨q, M1, hA, r3, u3⟩, fun Q => ?_⟩
      rw [← u4 Q, r25_68]
      simp only [r25_70, r25_72, r25_75, r25_76, r25_79, r25_80, r25_83, r25_84, r25_87, am_li0, am_liS, am_laR0, p_oc hP, r4, h1, n1, nI_1, am_tL, if_false, List.length_cons, List.length_nil, List.set_cons_succ, List.set_cons_zero, Nat.reduceAdd, Nat.reduceLT, Nat.zero_le, and_true, true_and]
theorem m_rounds {j j' : Nat} {t w : Tr} {H : Nat → Nat} {v3 : Value} : ∀ (m i : Nat) (s : St) (M : Pr), 12 - i = m → i ≤ 12 → mQ s j j' t w H M →
    ∃ (s' : St) (M' : Pr) (v1 v2 : Value), mQ s' j j' t w H M' ∧ frW s s' ∧ rnd t w H m M M' ∧ ∀ Q : Option Value → am_S → Prop, am_Rn L xs (d + 2) 95 51 [.ref 121, .int (bsB (bsA t w H M)), .int (nI i), v3] [] (mk s) Q = am_Rn L xs (d + 2) 95 84 [.ref 121, v1, v2, v3] [] (mk s') Q
  | 0, i, s, M, hm, hi, hQ => by
    have e : i = 12 := by omega
    subst e
    refine ⟨s, M, .int (bsB (bsA t w H M)), .int (nI 12), hQ, frW_refl s, rfl, fun Q => ?_⟩
    have h1 : (12 : Int32) ≤ nI 12 := by decide
    rw [r95_51]
    simp only [r95_52, r95_54, am_li0, am_liS, h1, if_true]
  | m + 1, i, s, M, hm, hi, hQ => by
    have h1 : ¬ (12 : Int32) ≤ nI i := nI_ge (b := 12) (by omega) (by decide)
    have hw := hQ.2.2.2.2.1
    have hw' := hQ.2.2.2.2.2
    have h12 := hw.1
    have h12' := hw'.1
    have hH := hQ.1.2.2.2.2.2.2.1
    cases hA : bsA t w H M with
    | none =>
      refine ⟨s, M, .int (-1), .int (nI i), hQ, frW_refl s, Or.inl ⟨hA, rfl⟩, fun Q => ?_⟩
      have e1 : bsB none = -1 := rfl
      have m1 : (-1 : Int32) < 0 := by decide
      rw [e1, r95_51]
      simp only [r95_52, r95_54, r95_57, r95_58, am_li0, am_liS, h1, m1, if_true, if_false]
    | some q =>
      obtain ⟨q1, q2, -, -, -, -, q3⟩ := bsA_W hw hH q hA
      obtain ⟨s1, M1, r1, r2, r3, r4⟩ := m_wed (L := L) (xs := xs) (d := d) hQ q1 q2 (frA_H q3).2.1
      obtain ⟨s2, M2, v1, v2, u1, u2, u3, u4⟩ := m_rounds (v3 := v3) m (i + 1) s1 M1 (by omega) (by omega) r1
      refine ⟨s2, M2, v1, v2, u1, frW_trans r2 u2, Or.inr ⟨q, M1, hA, r3, u3⟩, fun Q => ?_⟩
      have hb := fun Q => m_best (L := L) (xs := xs) (d := d) (s := s1) r1 (Q := Q)
      have e1 : bsB (some q) = nI (12 * q.1 + q.2.1) := rfl
      have ne : ¬ nI (12 * q.1 + q.2.1) < 0 := nI_pos (by omega)
      have d1 : nI (12 * q.1 + q.2.1) / 12 = nI q.1 := by
        show _ / nI 12 = _
        rw [pk_div (by omega) (by decide) (by decide)]
        congr 1
        omega
      have d2 : nI (12 * q.1 + q.2.1) - nI q.1 * 12 = nI q.2.1 := by
        show _ - nI q.1 * nI 12 = _
        rw [pk_mul, pk_sub (by omega)]
        congr 1
        omega
      have n12 : (12 : Int32) ≠ 0 := by decide
      rw [e1, ← u4 Q, r95_51]
      simp only [r95_52, r95_54, r95_57, r95_58, r95_61, r95_62, r95_63, r95_65, r95_66, r95_67, r95_69, r95_70, r95_73, r95_74, r95_77, r95_78, r95_81, am_li0, am_liS, am_laR0, m_oc, r4, hb, h1, ne, d1, d2, n12, nI_1, am_tL, am_tN, am_okI, if_false, ne_eq, not_false_eq_true, List.length_cons, List.length_nil, List.set_cons_succ, List.set_cons_zero, Nat.reduceAdd, Nat.reduceLT, Nat.zero_le, and_true, true_and]
end
