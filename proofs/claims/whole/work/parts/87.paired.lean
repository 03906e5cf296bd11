/-! Children are paired: the reference's side -/
def pkA (t w : Tr) (M : Pr) (x y c e : Nat) : Bool := (decide (t.2.1 c = nI x) && (M.1 c).isNone) && (decide (w.2.1 e = nI y) && (M.2 e).isNone)
def pkB (t w : Tr) (b : Bool) (c e : Nat) : Bool := decide (w.2.2.1 e = t.2.2.1 c) && (!b || decide (w.2.2.2 e = t.2.2.2 c))
theorem pk_iff {t w : Tr} {M : Pr} {b : Bool} {x y c e : Nat} : (pkA t w M x y c e && pkB t w b c e) = true ↔ (t.2.1 c = nI x ∧ M.1 c = none) ∧ ffP t w M b c y e = true := by
  unfold pkA pkB ffP
  simp only [Bool.and_eq_true, decide_eq_true_iff, Option.isNone_iff_eq_none]
  constructor
  · rintro ⟨⟨h1, h2⟩, h3, h4⟩
    exact ⟨h1, ⟨h2, h3⟩, h4⟩
  · rintro ⟨h1, ⟨h2, h3⟩, h4⟩
    exact ⟨⟨h1, h2⟩, h3, h4⟩
section
variable {L : Nat} {xs : Nat → Int32} {d : Nat}
theorem m_pk1 {s : St} {j j' : Nat} {t w : Tr} {H : Nat → Nat} {M : Pr} (hQ : mQ s j j' t w H M) {x y c e : Nat} (hc : c < t.1) (he : e < w.1) {r v6 v7 : Value} {Q : Option Value → am_S → Prop} :
    am_Rn L xs d 103 45 [.ref 121, .int (nI x), .int (nI y), r, .int (nI c), .int (nI e), v6, v7] [] (mk s) Q = am_Rn L xs d 103 110 [.ref 121, .int (nI x), .int (nI y), r, .int (nI c), .int (nI e), .int (bI (pkA t w M x y c e)), v7] [] (mk s) Q := by
  obtain ⟨⟨h, h', m1, m2, q1, q2, hH, hI⟩, -, hM, hp, hw, hw'⟩ := hQ
  have h12 := hw.1
  have h12' := hw'.1
  have f1 : (12 : Int32) * nI j + nI c = nI (12 * j + c) := by
    show nI 12 * nI j + nI c = _
    rw [pk_mul, nI_add]
  have f2 : (12 : Int32) * nI j' + nI e = nI (12 * j' + e) := by
    show nI 12 * nI j' + nI e = _
    rw [pk_mul, nI_add]
  have h6 : am_in (nI (12 * j + c)) 48 = true := in_of (by omega) (by decide)
  have h7 : (nI (12 * j + c)).toNatClampNeg = 12 * j + c := nI_clamp (by omega)
  have h8 : am_in (nI (12 * j' + e)) 48 = true := in_of (by omega) (by decide)
  have h9 : (nI (12 * j' + e)).toNatClampNeg = 12 * j' + e := nI_clamp (by omega)
  have k1 : am_in (nI c) 12 = true := in_of (by omega) (by decide)
  have k2 : (nI c).toNatClampNeg = c := nI_clamp (by omega)
  have e1 : am_in (nI e) 12 = true := in_of (by omega) (by decide)
  have e2 : (nI e).toNatClampNeg = e := nI_clamp (by omega)
  have pc' := (m1.2 c hc).1
  have pe := (m2.2 e he).1
  have em := (hM c (by omega)).1
  have eo := (hM e (by omega)).2
  have b0 : bI false = 0 := rfl
  have b1 : bI true = 1 := rfl
  have m1l : ¬ (0 : Int32) ≤ -1 := by decide
  unfold pkA
  by_cases z : t.2.1 c = nI x
  · rw [decide_eq_true z, Bool.true_and]
    cases hu : M.1 c with
    | some u =>
      have hu12 := (hp.1 c u hu).2
      have ne : (0 : Int32) ≤ nI u := Int32.not_lt.mp (nI_pos (by omega))
      rw [hu, oI_some] at em
      rw [Option.isNone_some, Bool.false_and, b0]
      simp only [r103_45, r103_46, r103_49, r103_51, r103_52, r103_55, r103_56, r103_58, r103_59, r103_60, r103_61, r103_64, r103_65, r103_68, r103_70, r103_71, r103_107, r103_108, am_li0, am_liS, am_laR0, g121_1, g121_4, g121_16, a123, a126, q1, f1, h6, h7, k1, k2, pc', z, em, ne, not_true, if_true, if_false, List.length_cons, List.length_nil, List.set_cons_succ, List.set_cons_zero, Nat.reduceAdd, Nat.reduceLT, true_and]
    | none =>
      rw [hu, oI_none] at em
      rw [Option.isNone_none, Bool.true_and]
      by_cases z2 : w.2.1 e = nI y
      · rw [decide_eq_true z2, Bool.true_and]
        cases hv : M.2 e with
        | some v =>
          have hv12 := (hp.2 e v hv).2
          have ne : (0 : Int32) ≤ nI v := Int32.not_lt.mp (nI_pos (by omega))
          rw [hv, oI_some] at eo
          rw [Option.isNone_some, b0]
          simp only [r103_45, r103_46, r103_49, r103_51, r103_52, r103_55, r103_56, r103_58, r103_59, r103_60, r103_61, r103_64, r103_65, r103_68, r103_70, r103_71, r103_74, r103_75, r103_78, r103_80, r103_81, r103_84, r103_85, r103_87, r103_88, r103_89, r103_90, r103_93, r103_94, r103_97, r103_99, r103_100, r103_107, r103_108, am_li0, am_liS, am_laR0, g121_1, g121_4, g121_5, g121_16, g121_17, a123, a126, a127, q1, q2, f1, f2, h6, h7, h8, h9, k1, k2, e1, e2, pc', pe, z, z2, em, eo, ne, m1l, not_true, if_true, if_false, List.length_cons, List.length_nil, List.set_cons_succ, List.set_cons_zero, Nat.reduceAdd, Nat.reduceLT, true_and]
        | none =>
          rw [hv, oI_none] at eo
          rw [Option.isNone_none, b1]
          simp only [r103_45, r103_46, r103_49, r103_51, r103_52, r103_55, r103_56, r103_58, r103_59, r103_60, r103_61, r103_64, r103_65, r103_68, r103_70, r103_71, r103_74, r103_75, r103_78, r103_80, r103_81, r103_84, r103_85, r103_87, r103_88, r103_89, r103_90, r103_93, r103_94, r103_97, r103_99, r103_100, r103_103, r103_104, r103_108, am_li0, am_liS, am_laR0, g121_1, g121_4, g121_5, g121_16, g121_17, a123, a126, a127, q1, q2, f1, f2, h6, h7, h8, h9, k1, k2, e1, e2, pc', pe, z, z2, em, eo, m1l, not_true, if_false, List.length_cons, List.length_nil, List.set_cons_succ, List.set_cons_zero, Nat.reduceAdd, Nat.reduceLT, true_and]
      · rw [decide_eq_false z2, Bool.false_and, b0]
        simp only [r103_45, r103_46, r103_49, r103_51, r103_52, r103_55, r103_56, r103_58, r103_59, r103_60, r103_61, r103_64, r103_65, r103_68, r103_70, r103_71, r103_74, r103_75, r103_78, r103_80, r103_81, r103_84, r103_85, r103_87, r103_88, r103_89, r103_90, r103_107, r103_108, am_li0, am_liS, am_laR0, g121_1, g121_4, g121_16, g121_17, a123, a126, q1, q2, f1, f2, h6, h7, h8, h9, k1, k2, pc', pe, z, z2, em, m1l, not_true, not_false_eq_true, if_true, if_false, List.length_cons, List.length_nil, List.set_cons_succ, List.set_cons_zero, Nat.reduceAdd, Nat.reduceLT, true_and]
  · rw [decide_eq_false z, Bool.false_and, Bool.false_and, b0]
    simp only [r103_45, r103_46, r103_49, r103_51, r103_52, r103_55, r103_56, r103_58, r103_59, r103_60, r103_61, r103_107, r103_108, am_li0, am_liS, am_laR0, g121_1, g121_16, a123, q1, f1, h6, h7, pc', z, not_false_eq_true, if_true, List.length_cons, List.length_nil, List.set_cons_succ, List.set_cons_zero, Nat.reduceAdd, Nat.reduceLT, true_and]
theorem m_pk2 {s : St} {j j' : Nat} {t w : Tr} {H : Nat → Nat} {M : Pr} (hQ : mQ s j j' t w H M) {b : Bool} {c e : Nat} (hc : c < t.1) (he : e < w.1) {v1 v2 v6 v7 : Value} {Q : Option Value → am_S → Prop} :
    am_Rn L xs d 103 110 [.ref 121, v1, v2, .int (bI (!b)), .int (nI c), .int (nI e), v6, v7] [] (mk s) Q = am_Rn L xs d 103 188 [.ref 121, v1, v2, .int (bI (!b)), .int (nI c), .int (nI e), v6, .int (bI (pkB t w b c e))] [] (mk s) Q := by
  obtain ⟨⟨h, h', m1, m2, q1, q2, hH, hI⟩, -, hM, hp, hw, hw'⟩ := hQ
  have h12 := hw.1
  have h12' := hw'.1
  have f1 : (12 : Int32) * nI j + nI c = nI (12 * j + c) := by
    show nI 12 * nI j + nI c = _
    rw [pk_mul, nI_add]
  have f2 : (12 : Int32) * nI j' + nI e = nI (12 * j' + e) := by
    show nI 12 * nI j' + nI e = _
    rw [pk_mul, nI_add]
  have h6 : am_in (nI (12 * j + c)) 48 = true := in_of (by omega) (by decide)
  have h7 : (nI (12 * j + c)).toNatClampNeg = 12 * j + c := nI_clamp (by omega)
  have h8 : am_in (nI (12 * j' + e)) 48 = true := in_of (by omega) (by decide)
  have h9 : (nI (12 * j' + e)).toNatClampNeg = 12 * j' + e := nI_clamp (by omega)
  obtain ⟨-, tc, lc⟩ := m1.2 c hc
  obtain ⟨-, te, le⟩ := m2.2 e he
  have b0 : bI false = 0 := rfl
  have b1 : bI true = 1 := rfl
  have n0 : ¬ (0 : Int32) = 1 := by decide
  unfold pkB
  by_cases z : w.2.2.1 e = t.2.2.1 c
  · rw [decide_eq_true z, Bool.true_and]
    rw [z] at te
    cases b with
    | false =>
      have x1 : (!false || decide (w.2.2.2 e = t.2.2.2 c)) = true := rfl
      have x2 : bI (!false) = 1 := rfl
      rw [x1, x2, b1]
      simp only [r103_110, r103_111, r103_114, r103_116, r103_117, r103_120, r103_121, r103_123, r103_124, r103_125, r103_126, r103_129, r103_131, r103_132, r103_135, r103_136, r103_138, r103_139, r103_140, r103_143, r103_144, r103_145, r103_181, r103_182, r103_186, am_li0, am_liS, am_laR0, g121_2, g121_16, g121_17, a124, q1, q2, f1, f2, h6, h7, h8, h9, tc, te, not_true, if_true, if_false, List.length_cons, List.length_nil, List.set_cons_succ, List.set_cons_zero, Nat.reduceAdd, Nat.reduceLT, true_and]
    | true =>
      have x1 : (!true || decide (w.2.2.2 e = t.2.2.2 c)) = decide (w.2.2.2 e = t.2.2.2 c) := rfl
      have x2 : bI (!true) = 0 := rfl
      rw [x1, x2]
      by_cases z2 : w.2.2.2 e = t.2.2.2 c
      · rw [decide_eq_true z2, b1]
        rw [z2] at le
        simp only [r103_110, r103_111, r103_114, r103_116, r103_117, r103_120, r103_121, r103_123, r103_124, r103_125, r103_126, r103_129, r103_131, r103_132, r103_135, r103_136, r103_138, r103_139, r103_140, r103_143, r103_144, r103_145, r103_148, r103_149, r103_152, r103_154, r103_155, r103_158, r103_159, r103_161, r103_162, r103_163, r103_164, r103_167, r103_169, r103_170, r103_173, r103_174, r103_176, r103_177, r103_178, r103_181, r103_182, r103_186, am_li0, am_liS, am_laR0, g121_2, g121_3, g121_16, g121_17, a124, a125, q1, q2, f1, f2, h6, h7, h8, h9, tc, te, lc, le, n0, not_true, if_false, List.length_cons, List.length_nil, List.set_cons_succ, List.set_cons_zero, Nat.reduceAdd, Nat.reduceLT, true_and]
      · have z3 : ¬ t.2.2.2 c = w.2.2.2 e := fun q => z2 q.symm
        rw [decide_eq_false z2, b0]
        simp only [r103_110, r103_111, r103_114, r103_116, r103_117, r103_120, r103_121, r103_123, r103_124, r103_125, r103_126, r103_129, r103_131, r103_132, r103_135, r103_136, r103_138, r103_139, r103_140, r103_143, r103_144, r103_145, r103_148, r103_149, r103_152, r103_154, r103_155, r103_158, r103_159, r103_161, r103_162, r103_163, r103_164, r103_167, r103_169, r103_170, r103_173, r103_174, r103_176, r103_177, r103_178, r103_185, r103_186, am_li0, am_liS, am_laR0, g121_2, g121_3, g121_16, g121_17, a124, a125, q1, q2, f1, f2, h6, h7, h8, h9, tc, te, lc, le, n0, z3, not_true, not_false_eq_true, if_true, if_false, List.length_cons, List.length_nil, List.set_cons_succ, List.set_cons_zero, Nat.reduceAdd, Nat.reduceLT, true_and]
  · have z3 : ¬ t.2.2.1 c = w.2.2.1 e := fun q => z q.symm
    rw [decide_eq_false z, Bool.false_and, b0]
    simp only [r103_110, r103_111, r103_114, r103_116, r103_117, r103_120, r103_121, r103_123, r103_124, r103_125, r103_126, r103_129, r103_131, r103_132, r103_135, r103_136, r103_138, r103_139, r103_140, r103_185, r103_186, am_li0, am_liS, am_laR0, g121_2, g121_16, g121_17, a124, q1, q2, f1, f2, h6, h7, h8, h9, tc, te, z3, not_false_eq_true, if_true, List.length_cons, List.length_nil, List.set_cons_succ, List.set_cons_zero, Nat.reduceAdd, Nat.reduceLT, true_and]
/-- what becomes of M when c is paired with those from e on -/
def prE (t w : Tr) (b : Bool) (x y c m e : Nat) (M : Pr) : Pr := if t.2.1 c = nI x ∧ M.1 c = none then pO M c (ffF t w M b c y m e) else M
theorem m_pk_in {j j' : Nat} {t w : Tr} {H : Nat → Nat} {b : Bool} {x y c : Nat} (hc : c < t.1) : ∀ (m e : Nat) (s : St) (M : Pr) (v6 v7 : Value), w.1 - e = m → e ≤ w.1 → mQ s j j' t w H M →
    ∃ (s' : St) (v5' v6' v7' : Value), mQ s' j j' t w H (prE t w b x y c m e M) ∧ frW s s' ∧ ∀ Q : Option Value → am_S → Prop, am_Rn L xs (d + 1) 103 31 [.ref 121, .int (nI x), .int (nI y), .int (bI (!b)), .int (nI c), .int (nI e), v6, v7] [] (mk s) Q = am_Rn L xs (d + 1) 103 212 [.ref 121, .int (nI x), .int (nI y), .int (bI (!b)), .int (nI c), v5', v6', v7'] [] (mk s') Q
  | 0, e, s, M, v6, v7, hm, he, hQ => by
    have q : e = w.1 := by omega
    subst q
    have e0 : prE t w b x y c 0 w.1 M = M := by
      unfold prE
      split
      · rfl
      · rfl
    refine ⟨s, .int (nI w.1), v6, v7, by rw [e0]; exact hQ, frW_refl s, fun Q => ?_⟩
    obtain ⟨⟨h, h', m1, m2, q1, q2, hH, hI⟩, -, hM, hp, hw, hw'⟩ := hQ
    have h12' := hw'.1
    have h1 : nI w.1 ≤ nI w.1 := nI_le (Nat.le_refl _) (by omega)
    have h2 : am_in (nI j') 4 = true := in_of (by omega) (by decide)
    have h3 : (nI j').toNatClampNeg = j' := nI_clamp (by omega)
    rw [r103_31]
    simp only [r103_33, r103_34, r103_37, r103_38, r103_41, r103_42, am_li0, am_liS, am_laR0, g121_0, g121_17, a122, q2, h2, h3, m2.1, h1, if_true, true_and]
  | m + 1, e, s, M, v6, v7, hm, he, hQ => by
    have hQ' := hQ
    obtain ⟨⟨h, h', m1, m2, q1, q2, hH, hI⟩, -, hM, hp, hw, hw'⟩ := hQ
    have h12 := hw.1
    have h12' := hw'.1
    have h1 : ¬ nI w.1 ≤ nI e := nI_ge (by omega) (by omega)
    have h2 : am_in (nI j') 4 = true := in_of (by omega) (by decide)
    have h3 : (nI j').toNatClampNeg = j' := nI_clamp (by omega)
    have n1 : ¬ (1 : Int32) = 0 := by decide
    have b0 : bI false = 0 := rfl
    have b1 : bI true = 1 := rfl
    have go : ∀ Q : Option Value → am_S → Prop, am_Rn L xs (d + 1) 103 31 [.ref 121, .int (nI x), .int (nI y), .int (bI (!b)), .int (nI c), .int (nI e), v6, v7] [] (mk s) Q = am_Rn L xs (d + 1) 103 188 [.ref 121, .int (nI x), .int (nI y), .int (bI (!b)), .int (nI c), .int (nI e), .int (bI (pkA t w M x y c e)), .int (bI (pkB t w b c e))] [] (mk s) Q := by
      intro Q
      rw [← m_pk2 (v7 := v7) hQ' hc (show e < w.1 by omega), ← m_pk1 (v6 := v6) hQ' hc (show e < w.1 by omega), r103_31]
      simp only [r103_33, r103_34, r103_37, r103_38, r103_41, r103_42, am_li0, am_liS, am_laR0, g121_0, g121_17, a122, q2, h2, h3, m2.1, h1, if_false, true_and]
    by_cases hy2 : (pkA t w M x y c e && pkB t w b c e) = true
    · obtain ⟨z1, z2⟩ := pk_iff.mp hy2
      rw [Bool.and_eq_true] at hy2
      obtain ⟨s', v5', v6', v7', r1, r2, r3⟩ := m_pk_in (b := b) (x := x) (y := y) hc m (e + 1) _ (pJ M c e) (.int 1) (.int 1) (by omega) (by omega) (mQ_J hQ' hc (show e < w.1 by omega))
      have ej : prE t w b x y c m (e + 1) (pJ M c e) = pJ M c e := by
        unfold prE
        rw [if_neg]
        intro q
        have := q.2
        unfold pJ at this
        dsimp only at this
        rw [if_pos rfl] at this
        cases this
      have ee : prE t w b x y c (m + 1) e M = pJ M c e := by
        unfold prE
        rw [if_pos z1, ffF_s, if_pos z2]
        rfl
      rw [ej] at r1
      refine ⟨s', v5', v6', v7', by rw [ee]; exact r1, frW_trans (frW_J _ _ _) r2, fun Q => ?_⟩
      have hmr := fun Q => m_marry (L := L) (xs := xs) (d := d) (s := s) (x := c) (y := e) (by omega) (by omega) (Q := Q)
      rw [go Q, hy2.1, hy2.2, b1, ← r3 Q]
      simp only [r103_188, r103_190, r103_193, r103_195, r103_198, r103_199, r103_201, r103_203, r103_206, r103_209, am_li0, am_liS, am_laR0, m_oc, hmr, n1, nI_1, am_tN, am_okI, if_false, List.length_nil, List.set_cons_succ, List.set_cons_zero, Nat.zero_le, and_true, true_and]
    · have ee : prE t w b x y c (m + 1) e M = prE t w b x y c m (e + 1) M := by
        unfold prE
        by_cases z : t.2.1 c = nI x ∧ M.1 c = none
        · rw [if_pos z, if_pos z, ffF_s, if_neg (fun q => hy2 (pk_iff.mpr ⟨z, q⟩))]
        · rw [if_neg z, if_neg z]
      obtain ⟨s', v5', v6', v7', r1, r2, r3⟩ := m_pk_in (b := b) (x := x) (y := y) hc m (e + 1) s M (.int (bI (pkA t w M x y c e))) (.int (bI (pkB t w b c e))) (by omega) (by omega) hQ'
      refine ⟨s', v5', v6', v7', by rw [ee]; exact r1, r2, fun Q => ?_⟩
      rw [go Q, ← r3 Q]
      cases ha : pkA t w M x y c e with
      | false =>
        rw [b0]
        simp only [r103_188, r103_190, r103_206, r103_209, am_li0, am_liS, nI_1, if_true, List.set_cons_succ, List.set_cons_zero]
      | true =>
        cases hb : pkB t w b c e with
        | false =>
          rw [b0, b1]
          simp only [r103_188, r103_190, r103_193, r103_195, r103_206, r103_209, am_li0, am_liS, n1, nI_1, if_true, if_false, List.set_cons_succ, List.set_cons_zero]
        | true =>
          rw [ha, hb] at hy2
          exact absurd rfl hy2
end
