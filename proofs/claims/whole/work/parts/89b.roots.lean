/-! The roots are joined, on both sides -/
section
variable {L : Nat} {xs : Nat → Int32} {d : Nat} {s : St}
theorem c_joinRoots {P a b : Nat} {t w : Tr} {H : Nat → Nat} {M : Pr} (hQ : cQ s P a b t w H M) (ht : 0 < t.1) (hu : 0 < w.1) :
    ∃ s' : St, cQ s' P a b t w H (jrA t w M) ∧ frJ P s s' ∧ ∀ Q : Option Value → am_S → Prop, am_Call L xs (d + 3) 40 [.ref P] (mk s) Q = Q none (mk s') := by
  have hQ' := hQ
  obtain ⟨⟨hP, hA, hB, g1, g2, c1, c2, -, -⟩, -, -, hM, hp, hw, hw'⟩ := hQ
  have h12 := hw.1
  have h12' := hw'.1
  have i0 : am_in 0 12 = true := by decide
  have z0 : (0 : Int32).toNatClampNeg = 0 := by decide
  have n1 : ¬ (1 : Int32) = 0 := by decide
  have em := (hM 0 (by omega)).1
  have eo := (hM 0 (by omega)).2
  have tx := (c1.2.1 0 ht).2.2.1
  have ty := (c2.2.1 0 hu).2.2.1
  cases h1 : M.1 0 with
  | some u =>
    have hu12 := (hp.1 0 u h1).2
    have ne : ¬ nI u = -1 := nI_m1 u (by omega)
    rw [h1, oI_some] at em
    have e : jrA t w M = M := if_neg (fun q => by have := q.1; rw [h1] at this; cases this)
    refine ⟨s, by rw [e]; exact hQ', frJ_refl P s, fun Q => ?_⟩
    simp only [e40, r40_0, r40_1, r40_4, r40_5, r40_6, r40_7, r40_24, r40_25, r40_26, r40_27, r40_63, am_li0, am_liS, am_laR0, p_0 hP, p_a1 hP, i0, z0, em, ne, not_false_eq_true, if_true, List.length_cons, List.length_nil, List.set_cons_succ, List.set_cons_zero, Nat.reduceAdd, Nat.reduceLT, true_and]
  | none =>
    rw [h1, oI_none] at em
    cases h2 : M.2 0 with
    | some u =>
      have hu12 := (hp.2 0 u h2).2
      have ne : ¬ nI u = -1 := nI_m1 u (by omega)
      rw [h2, oI_some] at eo
      have e : jrA t w M = M := if_neg (fun q => by have := q.2.1; rw [h2] at this; cases this)
      refine ⟨s, by rw [e]; exact hQ', frJ_refl P s, fun Q => ?_⟩
      simp only [e40, r40_0, r40_1, r40_4, r40_5, r40_6, r40_7, r40_10, r40_11, r40_14, r40_15, r40_16, r40_17, r40_24, r40_25, r40_26, r40_27, r40_63, am_li0, am_liS, am_laR0, p_0 hP, p_1 hP, p_a1 hP, p_a2 hP, i0, z0, em, eo, ne, not_true, not_false_eq_true, if_true, if_false, List.length_cons, List.length_nil, List.set_cons_succ, List.set_cons_zero, Nat.reduceAdd, Nat.reduceLT, true_and]
    | none =>
      rw [h2, oI_none] at eo
      by_cases h3 : t.2.2.1 0 = w.2.2.1 0
      · have e : jrA t w M = prA t w 0 0 (pJ M 0 0) := if_pos ⟨h1, h2, h3⟩
        have hj : ∀ Q : Option Value → am_S → Prop, am_Call L xs (d + 2) 33 [.ref P, .int 0, .int 0] (mk s) Q = _ := fun Q => c_join (L := L) (xs := xs) (d := d + 2) (s := s) (Q := Q) hP (x := 0) (y := 0) (by omega) (by omega)
        obtain ⟨s1, u1, u2, u3⟩ := c_pair (L := L) (xs := xs) (d := d) (cQ_J hQ' ht hu) ht hu
        have u3 : ∀ Q : Option Value → am_S → Prop, am_Call L xs (d + 2) 37 [.ref P, .int 0, .int 0] _ Q = Q none (mk s1) := u3
        refine ⟨s1, by rw [e]; exact u1, frJ_trans (frJ_J _ _ _ _) u2, fun Q => ?_⟩
        rw [h3] at tx
        simp only [e40, r40_0, r40_1, r40_4, r40_5, r40_6, r40_7, r40_10, r40_11, r40_14, r40_15, r40_16, r40_17, r40_20, r40_21, r40_25, r40_26, r40_27, r40_30, r40_31, r40_34, r40_37, r40_38, r40_39, r40_40, r40_43, r40_46, r40_47, r40_48, r40_51, r40_52, r40_53, r40_54, r40_57, r40_58, r40_59, r40_60, r40_63, am_li0, am_liS, am_laR0, p_oc hP, p_0 hP, p_1 hP, p_6 hP, p_7 hP, p_a1 hP, p_a2 hP, g1, g2, f_typ hA, f_typ hB, fa_typ hA, fa_typ hB, i0, z0, em, eo, tx, ty, hj, u3, n1, am_tN, am_okI, not_true, if_false, List.length_cons, List.length_nil, List.set_cons_succ, List.set_cons_zero, Nat.reduceAdd, Nat.reduceLT, Nat.zero_le, and_true, true_and]
      · have e : jrA t w M = M := if_neg (fun q => h3 q.2.2)
        refine ⟨s, by rw [e]; exact hQ', frJ_refl P s, fun Q => ?_⟩
        simp only [e40, r40_0, r40_1, r40_4, r40_5, r40_6, r40_7, r40_10, r40_11, r40_14, r40_15, r40_16, r40_17, r40_20, r40_21, r40_25, r40_26, r40_27, r40_30, r40_31, r40_34, r40_37, r40_38, r40_39, r40_40, r40_43, r40_46, r40_47, r40_48, r40_63, am_li0, am_liS, am_laR0, p_0 hP, p_1 hP, p_6 hP, p_7 hP, p_a1 hP, p_a2 hP, g1, g2, f_typ hA, f_typ hB, fa_typ hA, fa_typ hB, i0, z0, em, eo, tx, ty, h3, n1, not_true, not_false_eq_true, if_true, if_false, List.length_cons, List.length_nil, List.set_cons_succ, List.set_cons_zero, Nat.reduceAdd, Nat.reduceLT, true_and]
theorem m_roots {j j' : Nat} {t w : Tr} {H : Nat → Nat} {M : Pr} (hQ : mQ s j j' t w H M) (ht : 0 < t.1) (hu : 0 < w.1) {v1 v2 v3 : Value} :
    ∃ s' : St, mQ s' j j' t w H (jrA t w M) ∧ frW s s' ∧ ∀ Q : Option Value → am_S → Prop, am_Rn L xs (d + 2) 95 141 [.ref 121, v1, v2, v3] [] (mk s) Q = Q none (mk s') := by
  have hQ' := hQ
  obtain ⟨⟨h, h', m1, m2, q1, q2, hH, hI⟩, -, hM, hp, hw, hw'⟩ := hQ
  have h12 := hw.1
  have h12' := hw'.1
  have i0 : am_in 0 12 = true := by decide
  have z0 : (0 : Int32).toNatClampNeg = 0 := by decide
  have m1l : ¬ (0 : Int32) ≤ -1 := by decide
  have em := (hM 0 (by omega)).1
  have eo := (hM 0 (by omega)).2
  have tx : s.1 124 (12 * j) = t.2.2.1 0 := (m1.2 0 ht).2.1
  have ty : s.1 124 (12 * j') = w.2.2.1 0 := (m2.2 0 hu).2.1
  have f1 : (12 : Int32) * nI j = nI (12 * j) := pk_mul 12 j
  have f2 : (12 : Int32) * nI j' = nI (12 * j') := pk_mul 12 j'
  have h6 : am_in (nI (12 * j)) 48 = true := in_of (by omega) (by decide)
  have h7 : (nI (12 * j)).toNatClampNeg = 12 * j := nI_clamp (by omega)
  have h8 : am_in (nI (12 * j')) 48 = true := in_of (by omega) (by decide)
  have h9 : (nI (12 * j')).toNatClampNeg = 12 * j' := nI_clamp (by omega)
  cases h1 : M.1 0 with
  | some u =>
    have hu12 := (hp.1 0 u h1).2
    have ne : (0 : Int32) ≤ nI u := Int32.not_lt.mp (nI_pos (by omega))
    rw [h1, oI_some] at em
    have e : jrA t w M = M := if_neg (fun q => by have := q.1; rw [h1] at this; cases this)
    refine ⟨s, by rw [e]; exact hQ', frW_refl s, fun Q => ?_⟩
    simp only [r95_141, r95_142, r95_145, r95_146, r95_147, r95_198, am_laR0, g121_4, a126, i0, z0, em, ne, if_true, true_and]
  | none =>
    rw [h1, oI_none] at em
    cases h2 : M.2 0 with
    | some u =>
      have hu12 := (hp.2 0 u h2).2
      have ne : (0 : Int32) ≤ nI u := Int32.not_lt.mp (nI_pos (by omega))
      rw [h2, oI_some] at eo
      have e : jrA t w M = M := if_neg (fun q => by have := q.2.1; rw [h2] at this; cases this)
      refine ⟨s, by rw [e]; exact hQ', frW_refl s, fun Q => ?_⟩
      simp only [r95_141, r95_142, r95_145, r95_146, r95_147, r95_150, r95_151, r95_154, r95_155, r95_156, r95_198, am_laR0, g121_4, g121_5, a126, a127, i0, z0, em, eo, ne, m1l, if_true, if_false, true_and]
    | none =>
      rw [h2, oI_none] at eo
      by_cases h3 : t.2.2.1 0 = w.2.2.1 0
      · have e : jrA t w M = prA t w 0 0 (pJ M 0 0) := if_pos ⟨h1, h2, h3⟩
        have hj : ∀ Q : Option Value → am_S → Prop, am_Call L xs (d + 1) 101 [.ref 121, .int 0, .int 0] (mk s) Q = _ := fun Q => m_marry (L := L) (xs := xs) (d := d + 1) (s := s) (x := 0) (y := 0) (by omega) (by omega) (Q := Q)
        obtain ⟨s1, u1, u2, u3⟩ := m_paired (L := L) (xs := xs) (d := d) (mQ_J hQ' ht hu) ht hu
        have u3 : ∀ Q : Option Value → am_S → Prop, am_Call L xs (d + 1) 103 [.ref 121, .int 0, .int 0] _ Q = Q none (mk s1) := u3
        refine ⟨s1, by rw [e]; exact u1, frW_trans (frW_J _ _ _) u2, fun Q => ?_⟩
        rw [h3] at tx
        simp only [r95_141, r95_142, r95_145, r95_146, r95_147, r95_150, r95_151, r95_154, r95_155, r95_156, r95_159, r95_160, r95_163, r95_165, r95_166, r95_169, r95_170, r95_171, r95_172, r95_175, r95_177, r95_178, r95_181, r95_182, r95_183, r95_186, r95_187, r95_188, r95_189, r95_192, r95_193, r95_194, r95_195, r95_198, am_laR0, m_oc, g121_2, g121_4, g121_5, g121_16, g121_17, a124, a126, a127, q1, q2, f1, f2, h6, h7, h8, h9, i0, z0, em, eo, tx, ty, hj, u3, m1l, am_tN, am_okI, not_true, if_false, List.length_nil, Nat.zero_le, and_true, true_and]
      · have e : jrA t w M = M := if_neg (fun q => h3 q.2.2)
        refine ⟨s, by rw [e]; exact hQ', frW_refl s, fun Q => ?_⟩
        simp only [r95_141, r95_142, r95_145, r95_146, r95_147, r95_150, r95_151, r95_154, r95_155, r95_156, r95_159, r95_160, r95_163, r95_165, r95_166, r95_169, r95_170, r95_171, r95_172, r95_175, r95_177, r95_178, r95_181, r95_182, r95_183, r95_198, am_laR0, g121_2, g121_4, g121_5, g121_16, g121_17, a124, a126, a127, q1, q2, f1, f2, h6, h7, h8, h9, i0, z0, em, eo, tx, ty, h3, m1l, not_false_eq_true, if_true, if_false, true_and]
end
