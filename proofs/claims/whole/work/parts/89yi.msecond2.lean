/-! merge: one step of the second script in the reference, whole -/
section
variable {L : Nat} {xs : Nat → Int32} {d : Nat} {s : St}
theorem m_se_v {n I k : Nat} {l1 l2 r : List Sp} {S : Mg} {q : Sp} {Q : Option Value → am_S → Prop} (h : mG s n I l1 l2 S) (hV : mgV n I l1 S (q :: r)) (hl2 : l2.length ≤ 24) (hk : l2[k]? = some q) : am_Call L xs (d + 1) 120 [.ref 121, .int (nI (120 + k)), .int (nI n)] (mk s) Q = am_Rn L xs (d + 1) 120 30 [.ref 121, .int (nI (120 + k)), .int (nI n), .int q.2.1, .retAddr 0, .retAddr 0, .retAddr 0] [] (mk s) Q := by
  have h' := h
  obtain ⟨h1, h2, h3, h4, h5, h6, h7⟩ := h
  obtain ⟨⟨v1, v2, v3⟩, hR, v5, v6, v7, v8, v9, v10, v11, v12⟩ := hV
  have hkl : k < l2.length := (List.getElem?_eq_some_iff.mp hk).1
  rw [nuS_c] at v8
  have k1 : am_in (nI (120 + k)) 160 = true := in_of (by omega) (by decide)
  have k2 : (nI (120 + k)).toNatClampNeg = 120 + k := nI_clamp (by omega)
  have g0 : s.1 139 (120 + k) = q.1 := h4.2 k _ hk 0 (by decide)
  have g1 : s.1 140 (120 + k) = q.2.1 := h4.2 k _ hk 1 (by decide)
  by_cases h0 : q.1 = 0
  · simp only [e120, r120_0, r120_1, r120_4, r120_5, r120_6, r120_9, r120_10, r120_13, r120_14, r120_15, r120_29, am_li0, am_liS, am_laR0, g121_19, g121_20, a139, a140, k1, k2, g0, g1, h0, not_true, if_false, List.length_cons, List.length_nil, List.set_cons_succ, List.set_cons_zero, Nat.reduceAdd, Nat.reduceLT, true_and]
  · have hx : ∃ x, x < n ∧ q.2.1 = nI x := by
      rcases v8.2.2 with ⟨a, -, -⟩ | ⟨-, a, -⟩ | ⟨-, ⟨x, x1, x2, -⟩, -⟩
      · exact absurd a h0
      · exact a
      · exact ⟨x, x1, x2⟩
    obtain ⟨x, x1, x2⟩ := hx
    have na : ∀ Q : Option Value → am_S → Prop, am_Call L xs d 121 [.ref 121, .int q.2.1, .int (nI n)] (mk s) Q = Q (some (.int q.2.1)) (mk s) := fun Q => by
      have := m_named (L := L) (xs := xs) (d := d) (m := x) (Q := Q) h' v1 (by omega) (by omega)
      have e : mea n S.2.2.1 (nI x) = nI x := by
        unfold mea
        rw [if_neg (nI_pos (by omega)), nI_clamp (by omega), if_pos x1]
      rw [e] at this
      rw [x2]; exact this
    simp only [e120, r120_0, r120_1, r120_4, r120_5, r120_6, r120_18, r120_19, r120_20, r120_23, r120_24, r120_25, r120_26, r120_29, am_li0, am_liS, am_laR0, am_tL, m_oc, g121_19, g121_20, a139, a140, k1, k2, g0, g1, na, h0, not_false_eq_true, if_true, am_okI, am_okR, List.length_cons, List.length_nil, List.set_cons_succ, List.set_cons_zero, Nat.reduceAdd, Nat.reduceLT, Nat.zero_le, Nat.reduceLeDiff, and_true, true_and]
theorem m_se_p {n I k : Nat} {l1 l2 r : List Sp} {S : Mg} {q : Sp} {u3 u4 u5 u6 : Value} {Q : Option Value → am_S → Prop} (h : mG s n I l1 l2 S) (hV : mgV n I l1 S (q :: r)) (hl2 : l2.length ≤ 24) (hk : l2[k]? = some q) : am_Rn L xs (d + 1) 120 30 [.ref 121, .int (nI (120 + k)), .int (nI n), u3, u4, u5, u6] [] (mk s) Q = am_Rn L xs (d + 1) 120 82 [.ref 121, .int (nI (120 + k)), .int (nI n), u3, .int (mea n S.2.2.1 q.2.2.1), .int (mea n S.2.2.1 q.2.2.2.1), u6] [] (mk s) Q := by
  have h' := h
  obtain ⟨h1, h2, h3, h4, h5, h6, h7⟩ := h
  obtain ⟨⟨v1, v2, v3⟩, hR, v5, v6, v7, v8, v9, v10, v11, v12⟩ := hV
  have hkl : k < l2.length := (List.getElem?_eq_some_iff.mp hk).1
  rw [nuS_c] at v8
  obtain ⟨r1, r2, -⟩ := v8
  have k1 : am_in (nI (120 + k)) 160 = true := in_of (by omega) (by decide)
  have k2 : (nI (120 + k)).toNatClampNeg = 120 + k := nI_clamp (by omega)
  have g2 : s.1 141 (120 + k) = q.2.2.1 := h4.2 k _ hk 2 (by decide)
  have g3 : s.1 142 (120 + k) = q.2.2.2.1 := h4.2 k _ hk 3 (by decide)
  have m0 : ¬ (0 : Int32) ≤ -1 := by decide
  have em : mea n S.2.2.1 (-1) = -1 := by
    unfold mea
    rw [if_pos (by decide)]
  have na : ∀ m, m < n + S.2.1 → ∀ Q : Option Value → am_S → Prop, am_Call L xs d 121 [.ref 121, .int (nI m), .int (nI n)] (mk s) Q = Q (some (.int (mea n S.2.2.1 (nI m)))) (mk s) := fun m hm Q => m_named h' v1 (by omega) hm
  have pp : ∀ m, m < n + S.2.1 → (0 : Int32) ≤ nI m := fun m hm => nI_le (a := 0) (Nat.zero_le m) (by omega)
  have st1 : am_Rn L xs (d + 1) 120 30 [.ref 121, .int (nI (120 + k)), .int (nI n), u3, u4, u5, u6] [] (mk s) Q = am_Rn L xs (d + 1) 120 56 [.ref 121, .int (nI (120 + k)), .int (nI n), u3, .int (mea n S.2.2.1 q.2.2.1), u5, u6] [] (mk s) Q := by
    rcases r1 with e | ⟨m, m1, e⟩
    · rw [e] at g2
      rw [e, em]
      simp only [r120_30, r120_31, r120_34, r120_35, r120_36, r120_39, r120_40, r120_54, am_li0, am_liS, am_laR0, g121_21, a141, k1, k2, g2, m0, if_false, List.length_cons, List.length_nil, List.set_cons_succ, List.set_cons_zero, Nat.reduceAdd, Nat.reduceLT, true_and]
    · rw [e] at g2
      rw [e]
      have na := na m m1
      have pp := pp m m1
      simp only [r120_30, r120_31, r120_34, r120_35, r120_36, r120_43, r120_44, r120_45, r120_48, r120_49, r120_50, r120_51, r120_54, am_li0, am_liS, am_laR0, am_tL, m_oc, g121_21, a141, k1, k2, g2, na, pp, if_true, am_okI, am_okR, List.length_cons, List.length_nil, List.set_cons_succ, List.set_cons_zero, Nat.reduceAdd, Nat.reduceLT, Nat.zero_le, Nat.reduceLeDiff, and_true, true_and]
  rw [st1]
  rcases r2 with e | ⟨m, m1, e⟩
  · rw [e] at g3
    rw [e, em]
    simp only [r120_56, r120_57, r120_60, r120_61, r120_62, r120_65, r120_66, r120_80, am_li0, am_liS, am_laR0, g121_22, a142, k1, k2, g3, m0, if_false, List.length_cons, List.length_nil, List.set_cons_succ, List.set_cons_zero, Nat.reduceAdd, Nat.reduceLT, true_and]
  · rw [e] at g3
    rw [e]
    have na := na m m1
    have pp := pp m m1
    simp only [r120_56, r120_57, r120_60, r120_61, r120_62, r120_69, r120_70, r120_71, r120_74, r120_75, r120_76, r120_77, r120_80, am_li0, am_liS, am_laR0, am_tL, m_oc, g121_22, a142, k1, k2, g3, na, pp, if_true, am_okI, am_okR, List.length_cons, List.length_nil, List.set_cons_succ, List.set_cons_zero, Nat.reduceAdd, Nat.reduceLT, Nat.zero_le, Nat.reduceLeDiff, and_true, true_and]
theorem o80_p {j : Nat} (h : j < 24) : ¬ o80 (some j) < 0 ∧ (0 : Int32) ≤ o80 (some j) := ⟨nI_pos (by omega), nI_le (a := 0) (Nat.zero_le _) (by omega)⟩
theorem m_second {n I k : Nat} {l1 l2 r : List Sp} {S : Mg} {q : Sp} (h : mG s n I l1 l2 S) (hV : mgV n I l1 S (q :: r)) (hl2 : l2.length ≤ 24) (hk : l2[k]? = some q) : stM L xs (d + 4) 120 [.ref 121, .int (nI (120 + k)), .int (nI n)] n I l1 l2 S q s := by
  have h' := h
  have hV' := hV
  obtain ⟨w1', w2'⟩ := mg_va hV
  have S0 : ∀ Q : Option Value → am_S → Prop, am_Call L xs (d + 4) 120 [.ref 121, .int (nI (120 + k)), .int (nI n)] (mk s) Q = am_Rn L xs (d + 4) 120 82 [.ref 121, .int (nI (120 + k)), .int (nI n), .int q.2.1, .int (mea n S.2.2.1 q.2.2.1), .int (mea n S.2.2.1 q.2.2.2.1), .retAddr 0] [] (mk s) Q := fun Q => (m_se_v h hV hl2 hk).trans (m_se_p h hV hl2 hk)
  obtain ⟨h1, h2, h3, h4, h5, h6, h7⟩ := h
  obtain ⟨⟨v1, v2, v3⟩, hR, v5, v6, v7, v8, v9, v10, v11, v12⟩ := hV
  have hkl : k < l2.length := (List.getElem?_eq_some_iff.mp hk).1
  rw [nuS_c] at v8
  have k1 : am_in (nI (120 + k)) 160 = true := in_of (by omega) (by decide)
  have k2 : (nI (120 + k)).toNatClampNeg = 120 + k := nI_clamp (by omega)
  have g0 : s.1 139 (120 + k) = q.1 := h4.2 k _ hk 0 (by decide)
  have g4 : s.1 143 (120 + k) = q.2.2.2.2.1 := h4.2 k _ hk 4 (by decide)
  have g5 : s.1 144 (120 + k) = q.2.2.2.2.2 := h4.2 k _ hk 5 (by decide)
  have n1 : ¬ (1 : Int32) = 0 := by decide
  have m0 : (-1 : Int32) < 0 := by decide
  have m0' : ¬ (0 : Int32) ≤ -1 := by decide
  have b0 : bI false = 0 := rfl
  have b1 : bI true = 1 := rfl
  have fs : ∀ a v Q, am_Call L xs (d + 3) 126 [.ref 121, .int a, .int v] (mk s) Q = Q (some (.int (o80 (fdS l1 a v)))) (mk s) := fun a v Q => m_first h3 v11
  by_cases h0 : q.1 = 0
  · obtain ⟨s', f, e⟩ := m_adds (L := L) (xs := xs) (d := d) h' hV' hl2 hk h0 rfl rfl
    rw [h0] at g0
    refine ⟨s', f, ?_⟩
    rcases e with ⟨S', e1, e2, e3⟩ | ⟨e1, e3⟩
    · refine Or.inl ⟨S', e1, e2, fun Q => ?_⟩
      rw [S0 Q]
      simp only [r120_82, r120_83, r120_86, r120_87, r120_88, r120_91, r120_92, r120_93, r120_94, r120_96, r120_98, r120_101, am_li0, am_liS, am_laR0, am_tL, m_oc, g121_19, a139, k1, k2, g0, e3, not_true, if_false, am_okI, am_okR, List.length_cons, List.length_nil, Nat.reduceAdd, Nat.zero_le, Nat.reduceLeDiff, and_true, true_and, or_true, eq_self]
    · refine Or.inr ⟨e1, fun Q => ?_⟩
      rw [S0 Q]
      simp only [r120_82, r120_83, r120_86, r120_87, r120_88, r120_91, r120_92, r120_93, r120_94, r120_96, r120_98, r120_101, am_li0, am_liS, am_laR0, am_tL, m_oc, g121_19, a139, k1, k2, g0, e3, not_true, if_false, am_okI, am_okR, List.length_cons, List.length_nil, Nat.reduceAdd, Nat.zero_le, Nat.reduceLeDiff, and_true, true_and, true_or, eq_self]
  have hx : ∃ x, x < n ∧ q.2.1 = nI x := by
    rcases v8.2.2 with ⟨a, -, -⟩ | ⟨-, a, -⟩ | ⟨-, ⟨x, x1, x2, -⟩, -⟩
    · exact absurd a h0
    · exact a
    · exact ⟨x, x1, x2⟩
  obtain ⟨x, x1, x2⟩ := hx
  have xc : q.2.1.toNatClampNeg = x := by rw [x2]; exact nI_clamp (by omega)
  have x36 : am_in (nI x) 36 = true := in_of (by omega) (by decide)
  have xcl : (nI x).toNatClampNeg = x := nI_clamp (by omega)
  have hxm : hsB S.1.2.1 q.2.1 = true → x ∈ S.1.2.1 := fun hs => by
    obtain ⟨m, m1, m2⟩ := hsB_iff.mp hs
    rw [x2] at m2
    rw [(nI_eq (by omega) (rOk_lt hR m m1)).mp m2]; exact m1
  have hq : q.1 = 1 ∨ q.1 = 2 ∨ q.1 = 3 := by
    rcases v8.2.2 with ⟨a, -, -⟩ | ⟨a, -, -⟩ | ⟨a, -, -⟩
    · exact absurd a h0
    · rcases a with a | a
      · exact Or.inl a
      · exact Or.inr (Or.inl a)
    · exact Or.inr (Or.inr a)
  have et : s.1 147 x = bI (hsB S.1.2.1 q.2.1) := by rw [x2]; exact th_hs hR h2 (show x < 36 by omega)
  rcases hq with a | a | a
  · -- UPDATE
    rw [a] at g0
    have a13 : ¬ (1 : Int32) = 3 := by decide
    have em : mg1 n I l1 S q = (if hsB S.1.2.1 q.2.1 = true then mgUpd l1 S q (fdS l1 1 q.2.1) else none) := by
      unfold mg1
      rw [if_neg h0, if_pos a]
    generalize mea n S.2.2.1 q.2.2.1 = p at S0
    generalize mea n S.2.2.1 q.2.2.2.1 = b at S0
    unfold stM
    rw [em]
    cases hs : hsB S.1.2.1 q.2.1 with
    | false =>
      rw [hs, b0] at et
      refine ⟨s, frMm_r s, Or.inr ⟨if_neg (by decide), fun Q => ?_⟩⟩
      rw [S0 Q, x2]
      simp only [r120_82, r120_83, r120_86, r120_87, r120_88, r120_102, r120_103, r120_106, r120_107, r120_108, r120_109, r120_163, r120_164, r120_167, r120_168, r120_169, r120_172, r120_173, am_li0, am_liS, am_laR0, g121_19, g121_30, a139, a147, k1, k2, g0, x36, xcl, et, n1, a13, not_true, not_false_eq_true, if_true, if_false, true_and, true_or, eq_self]
    | true =>
      rw [hs, b1] at et
      rw [if_pos rfl]
      have S1 : ∀ Q : Option Value → am_S → Prop, am_Call L xs (d + 4) 120 [.ref 121, .int (nI (120 + k)), .int (nI n)] (mk s) Q = am_Rn L xs (d + 4) 120 197 [.ref 121, .int (nI (120 + k)), .int (nI n), .int (nI x), .int p, .int b, .int (o80 (fdS l1 1 q.2.1))] [] (mk s) Q := fun Q => by
        rw [S0 Q, x2]
        simp only [r120_82, r120_83, r120_86, r120_87, r120_88, r120_102, r120_103, r120_106, r120_107, r120_108, r120_109, r120_163, r120_164, r120_167, r120_168, r120_169, r120_174, r120_175, r120_176, r120_179, r120_180, r120_181, r120_182, r120_185, r120_187, r120_188, r120_191, r120_192, r120_193, r120_194, am_li0, am_liS, am_laR0, am_tL, m_oc, g121_19, g121_30, a139, a147, k1, k2, g0, x36, xcl, et, fs, n1, a13, not_true, not_false_eq_true, if_true, if_false, am_okI, am_okR, List.length_cons, List.length_nil, List.set_cons_succ, List.set_cons_zero, Nat.reduceAdd, Nat.reduceLT, Nat.zero_le, Nat.reduceLeDiff, and_true, true_and]
      cases hf : fdS l1 1 q.2.1 with
      | some j =>
        obtain ⟨-, j2, -⟩ := fiF_some hf
        have jl : j < l1.length := by omega
        obtain ⟨j3, -⟩ := o80_p (j := j) (by omega)
        rw [hf] at S1
        have z1 : am_in (o80 (some j)) 160 = true := in_of (j := 80 + j) (by omega) (by decide)
        have z2 : (o80 (some j)).toNatClampNeg = 80 + j := nI_clamp (by omega)
        have z3 : s.1 144 (80 + j) = lg l1 5 j := msc_lg h3 (show 5 < 6 by decide) jl
        show ∃ s' : St, frMm s s' ∧ ((∃ S', (if lg l1 5 j = q.2.2.2.2.2 then some S else none) = some S' ∧ _) ∨ ((if lg l1 5 j = q.2.2.2.2.2 then some S else none) = none ∧ _))
        by_cases c : lg l1 5 j = q.2.2.2.2.2
        · refine ⟨s, frMm_r s, Or.inl ⟨S, if_pos c, h', fun Q => ?_⟩⟩
          rw [S1 Q]
          simp only [r120_197, r120_199, r120_202, r120_203, r120_206, r120_208, r120_209, r120_210, r120_213, r120_214, r120_215, r120_218, r120_219, r120_223, am_li0, am_liS, am_laR0, g121_24, a144, k1, k2, g5, z1, z2, z3, j3, c, not_true, if_false, true_and, or_true, eq_self]
        · refine ⟨s, frMm_r s, Or.inr ⟨if_neg c, fun Q => ?_⟩⟩
          rw [S1 Q]
          simp only [r120_197, r120_199, r120_202, r120_203, r120_206, r120_208, r120_209, r120_210, r120_213, r120_214, r120_215, r120_222, r120_223, am_li0, am_liS, am_laR0, g121_24, a144, k1, k2, g5, z1, z2, z3, j3, c, not_false_eq_true, if_true, if_false, true_and, true_or, eq_self]
      | none =>
        rw [hf, o80_n] at S1
        obtain ⟨s', c1, c2, c3, c4⟩ := m_does (L := L) (xs := xs) (d := d + 1) (at' := 120 + k) (v := x) (p := p) (b := b) (by omega) g0 g4 g5 hR h1 h2 (by omega) (Or.inr (Or.inl rfl))
        have ed : doS S.1 (1, nI x, p, b, q.2.2.2.2.1, q.2.2.2.2.2) = doS S.1 q := by
          obtain ⟨k', nd, p', b', y, lb⟩ := q
          dsimp only at a x2
          subst a; subst x2
          rw [doS_1 S.1 x (by omega), doS_1 S.1 x (by omega)]
        rw [ed] at c1 c2
        have c4 : ∀ Q : Option Value → am_S → Prop, am_Call L xs (d + 3) 114 [.ref 121, .int (nI (120 + k)), .int (nI x), .int p, .int b] (mk s) Q = Q none (mk s') := c4
        refine ⟨s', frE_Mm c3, Or.inl ⟨(doS S.1 q, S.2), rfl, mG_E h' c3 c1 c2, fun Q => ?_⟩⟩
        rw [S1 Q]
        simp only [r120_197, r120_199, r120_287, r120_288, r120_289, r120_290, r120_292, r120_294, r120_297, r120_298, am_li0, am_liS, am_laR0, am_tN, m_oc, c4, m0, if_true, am_okI, am_okR, List.length_cons, List.length_nil, Nat.reduceAdd, Nat.zero_le, Nat.reduceLeDiff, and_true, true_and, or_true, eq_self]
  · -- MOVE
    rw [a] at g0
    have a23 : ¬ (2 : Int32) = 3 := by decide
    have a21 : ¬ (2 : Int32) = 1 := by decide
    have a20 : ¬ (2 : Int32) = 0 := by decide
    have em : mg1 n I l1 S q = (if hsB S.1.2.1 q.2.1 = true then mgMov l1 S q (mea n S.2.2.1 q.2.2.1) (mea n S.2.2.1 q.2.2.2.1) (fdS l1 2 q.2.1) else none) := by
      unfold mg1
      rw [if_neg h0, if_neg (by rw [a]; decide), if_pos a]
    generalize mea n S.2.2.1 q.2.2.1 = p at S0 em w1'
    generalize mea n S.2.2.1 q.2.2.2.1 = b at S0 em w2'
    unfold stM
    rw [em]
    cases hs : hsB S.1.2.1 q.2.1 with
    | false =>
      rw [hs, b0] at et
      refine ⟨s, frMm_r s, Or.inr ⟨if_neg (by decide), fun Q => ?_⟩⟩
      rw [S0 Q, x2]
      simp only [r120_82, r120_83, r120_86, r120_87, r120_88, r120_102, r120_103, r120_106, r120_107, r120_108, r120_109, r120_163, r120_164, r120_167, r120_168, r120_169, r120_172, r120_173, am_li0, am_liS, am_laR0, g121_19, g121_30, a139, a147, k1, k2, g0, x36, xcl, et, a20, a23, not_true, not_false_eq_true, if_true, if_false, true_and, true_or, eq_self]
    | true =>
      have hxm := hxm hs
      rw [hs, b1] at et
      rw [if_pos rfl]
      have S1 : ∀ Q : Option Value → am_S → Prop, am_Call L xs (d + 4) 120 [.ref 121, .int (nI (120 + k)), .int (nI n)] (mk s) Q = am_Rn L xs (d + 4) 120 224 [.ref 121, .int (nI (120 + k)), .int (nI n), .int (nI x), .int p, .int b, .int (o80 (fdS l1 2 q.2.1))] [] (mk s) Q := fun Q => by
        rw [S0 Q, x2]
        simp only [r120_82, r120_83, r120_86, r120_87, r120_88, r120_102, r120_103, r120_106, r120_107, r120_108, r120_109, r120_163, r120_164, r120_167, r120_168, r120_169, r120_174, r120_175, r120_176, r120_179, r120_180, r120_181, r120_182, r120_185, r120_187, r120_188, r120_191, r120_192, r120_193, r120_194, am_li0, am_liS, am_laR0, am_tL, m_oc, g121_19, g121_30, a139, a147, k1, k2, g0, x36, xcl, et, fs, n1, a20, a21, a23, not_true, not_false_eq_true, if_true, if_false, am_okI, am_okR, List.length_cons, List.length_nil, List.set_cons_succ, List.set_cons_zero, Nat.reduceAdd, Nat.reduceLT, Nat.zero_le, Nat.reduceLeDiff, and_true, true_and]
      cases hf : fdS l1 2 q.2.1 with
      | some j =>
        obtain ⟨-, j2, -⟩ := fiF_some hf
        have jl : j < l1.length := by omega
        obtain ⟨j3, -⟩ := o80_p (j := j) (by omega)
        rw [hf] at S1
        have z1 : am_in (o80 (some j)) 160 = true := in_of (j := 80 + j) (by omega) (by decide)
        have z2 : (o80 (some j)).toNatClampNeg = 80 + j := nI_clamp (by omega)
        have z3 : s.1 141 (80 + j) = lg l1 2 j := msc_lg h3 (show 2 < 6 by decide) jl
        have z4 : s.1 142 (80 + j) = lg l1 3 j := msc_lg h3 (show 3 < 6 by decide) jl
        show ∃ s' : St, frMm s s' ∧ ((∃ S', (if lg l1 2 j = p ∧ lg l1 3 j = b then some S else none) = some S' ∧ _) ∨ ((if lg l1 2 j = p ∧ lg l1 3 j = b then some S else none) = none ∧ _))
        by_cases c : lg l1 2 j = p
        · by_cases c' : lg l1 3 j = b
          · refine ⟨s, frMm_r s, Or.inl ⟨S, if_pos ⟨c, c'⟩, h', fun Q => ?_⟩⟩
            rw [S1 Q]
            simp only [r120_224, r120_226, r120_229, r120_230, r120_233, r120_235, r120_236, r120_238, r120_241, r120_242, r120_245, r120_247, r120_248, r120_250, r120_253, r120_254, r120_258, am_li0, am_liS, am_laR0, g121_21, g121_22, a141, a142, z1, z2, z3, z4, j3, c, c', not_true, if_false, true_and, or_true, eq_self]
          · refine ⟨s, frMm_r s, Or.inr ⟨if_neg (fun e => c' e.2), fun Q => ?_⟩⟩
            rw [S1 Q]
            simp only [r120_224, r120_226, r120_229, r120_230, r120_233, r120_235, r120_236, r120_238, r120_241, r120_242, r120_245, r120_247, r120_248, r120_250, r120_257, r120_258, am_li0, am_liS, am_laR0, g121_21, g121_22, a141, a142, z1, z2, z3, z4, j3, c, c', not_true, not_false_eq_true, if_true, if_false, true_and, true_or, eq_self]
        · refine ⟨s, frMm_r s, Or.inr ⟨if_neg (fun e => c e.1), fun Q => ?_⟩⟩
          rw [S1 Q]
          simp only [r120_224, r120_226, r120_229, r120_230, r120_233, r120_235, r120_236, r120_238, r120_257, r120_258, am_li0, am_liS, am_laR0, g121_21, a141, z1, z2, z3, j3, c, not_false_eq_true, if_true, if_false, true_and, true_or, eq_self]
      | none =>
        rw [hf, o80_n] at S1
        have fu : ∀ Q : Option Value → am_S → Prop, am_Call L xs (d + 3) 124 [.ref 121, .int p, .int b] (mk s) Q = _ := fun Q => m_fitsUnder (d := d + 2) hR h1 h2 w1' w2'
        show ∃ s' : St, frMm s s' ∧ ((∃ S', (if canB S.1 p b = true ∧ wiF S.1 q.2.1.toNatClampNeg 37 p = false then some (doS S.1 (2, q.2.1, p, b, q.2.2.2.2.1, q.2.2.2.2.2), S.2) else none) = some S' ∧ _) ∨ ((if canB S.1 p b = true ∧ wiF S.1 q.2.1.toNatClampNeg 37 p = false then some (doS S.1 (2, q.2.1, p, b, q.2.2.2.2.1, q.2.2.2.2.2), S.2) else none) = none ∧ _))
        rw [xc]
        cases hc : canB S.1 p b with
        | false =>
          rw [hc, b0] at fu
          refine ⟨s, frMm_r s, Or.inr ⟨if_neg (fun e => by cases e.1), fun Q => ?_⟩⟩
          rw [S1 Q]
          simp only [r120_224, r120_226, r120_259, r120_260, r120_262, r120_264, r120_267, r120_285, r120_286, am_li0, am_liS, am_laR0, am_tL, m_oc, fu, m0, if_true, am_okI, am_okR, List.length_cons, List.length_nil, Nat.reduceAdd, Nat.zero_le, Nat.reduceLeDiff, and_true, true_and, true_or, eq_self]
        | true =>
          rw [hc, b1] at fu
          obtain ⟨o1, o2⟩ := can_ok (v := x) hR w1' w2' hc
          obtain ⟨s', c1, c2, c3, c4⟩ := m_does (L := L) (xs := xs) (d := d + 1) (at' := 120 + k) (v := x) (p := p) (b := b) (by omega) g0 g4 g5 hR h1 h2 (by omega) (Or.inr (Or.inr (Or.inl ⟨rfl, hxm, o1⟩)))
          rw [← x2] at c1 c2
          have c4 : ∀ Q : Option Value → am_S → Prop, am_Call L xs (d + 3) 114 [.ref 121, .int (nI (120 + k)), .int (nI x), .int p, .int b] (mk s) Q = Q none (mk s') := c4
          rcases o2 with o2 | ⟨m, m1, m2⟩
          · have wn : wiF S.1 x 37 p = false := by rw [wiF_s, o2, hs_m1 hR, Bool.false_and]
            have p0 : p < 0 := by rw [o2]; decide
            refine ⟨s', frE_Mm c3, Or.inl ⟨_, if_pos ⟨rfl, wn⟩, mG_E h' c3 c1 c2, fun Q => ?_⟩⟩
            rw [S1 Q]
            simp only [r120_224, r120_226, r120_259, r120_260, r120_262, r120_264, r120_267, r120_270, r120_272, r120_287, r120_288, r120_289, r120_290, r120_292, r120_294, r120_297, r120_298, am_li0, am_liS, am_laR0, am_tL, am_tN, m_oc, fu, c4, m0, p0, n1, if_true, if_false, am_okI, am_okR, List.length_cons, List.length_nil, Nat.reduceAdd, Nat.zero_le, Nat.reduceLeDiff, and_true, true_and, or_true, eq_self]
          · have p0 : ¬ p < 0 := by rw [m2]; exact nI_pos (rOk_lt hR m m1)
            have wi : ∀ Q : Option Value → am_S → Prop, am_Call L xs (d + 3) 128 [.ref 121, .int p, .int (nI x)] (mk s) Q = _ := fun Q => m_within hR h1 v5 (by omega) (Or.inr (hsB_iff.mpr ⟨m, m1, m2⟩))
            cases hwi : wiF S.1 x 37 p with
            | true =>
              rw [hwi, b1] at wi
              refine ⟨s, frMm_r s, Or.inr ⟨if_neg (fun e => by cases e.2), fun Q => ?_⟩⟩
              rw [S1 Q]
              simp only [r120_224, r120_226, r120_259, r120_260, r120_262, r120_264, r120_267, r120_270, r120_272, r120_275, r120_276, r120_278, r120_279, r120_282, r120_285, r120_286, am_li0, am_liS, am_laR0, am_tL, m_oc, fu, wi, m0, p0, n1, if_true, if_false, am_okI, am_okR, List.length_cons, List.length_nil, Nat.reduceAdd, Nat.zero_le, Nat.reduceLeDiff, and_true, true_and, true_or, eq_self]
            | false =>
              rw [hwi, b0] at wi
              refine ⟨s', frE_Mm c3, Or.inl ⟨_, if_pos ⟨rfl, rfl⟩, mG_E h' c3 c1 c2, fun Q => ?_⟩⟩
              rw [S1 Q]
              simp only [r120_224, r120_226, r120_259, r120_260, r120_262, r120_264, r120_267, r120_270, r120_272, r120_275, r120_276, r120_278, r120_279, r120_282, r120_287, r120_288, r120_289, r120_290, r120_292, r120_294, r120_297, r120_298, am_li0, am_liS, am_laR0, am_tL, am_tN, m_oc, fu, wi, c4, m0, p0, n1, if_true, if_false, am_okI, am_okR, List.length_cons, List.length_nil, Nat.reduceAdd, Nat.zero_le, Nat.reduceLeDiff, and_true, true_and, or_true, eq_self]
  · -- DELETE
    rw [a] at g0
    have a30 : ¬ (3 : Int32) = 0 := by decide
    have em : mg1 n I l1 S q = mgDel l1 S q (fdS l1 3 q.2.1) := by
      unfold mg1
      rw [if_neg h0, if_neg (by rw [a]; decide), if_neg (by rw [a]; decide)]
    generalize mea n S.2.2.1 q.2.2.1 = p at S0
    generalize mea n S.2.2.1 q.2.2.2.1 = b at S0
    have S1 : ∀ Q : Option Value → am_S → Prop, am_Call L xs (d + 4) 120 [.ref 121, .int (nI (120 + k)), .int (nI n)] (mk s) Q = am_Rn L xs (d + 4) 120 118 [.ref 121, .int (nI (120 + k)), .int (nI n), .int q.2.1, .int p, .int b, .retAddr 0] [.int (o80 (fdS l1 3 q.2.1))] (mk s) Q := fun Q => by
      rw [S0 Q]
      simp only [r120_82, r120_83, r120_86, r120_87, r120_88, r120_102, r120_103, r120_106, r120_107, r120_108, r120_109, r120_112, r120_113, r120_114, r120_115, am_li0, am_liS, am_laR0, am_tL, m_oc, g121_19, a139, k1, k2, g0, fs, a30, not_true, not_false_eq_true, if_true, if_false, am_okI, am_okR, List.length_cons, List.length_nil, Nat.reduceAdd, Nat.zero_le, Nat.reduceLeDiff, and_true, true_and]
    unfold stM
    rw [em]
    cases hf : fdS l1 3 q.2.1 with
    | some j =>
      obtain ⟨-, j2, -⟩ := fiF_some hf
      obtain ⟨j3, -⟩ := o80_p (j := j) (by omega)
      rw [hf] at S1
      refine ⟨s, frMm_r s, Or.inl ⟨S, rfl, h', fun Q => ?_⟩⟩
      rw [S1 Q]
      simp only [r120_118, r120_121, r120_122, j3, if_false, or_true, eq_self]
    | none =>
      rw [hf, o80_n] at S1
      have hxm := hxm ((v12 q List.mem_cons_self a).resolve_left (by rw [hf]; decide))
      show ∃ s' : St, frMm s s' ∧ ((∃ S', (if (fdS l1 1 q.2.1).isSome = true ∨ (fdS l1 2 q.2.1).isSome = true ∨ 0 < ctL S.1.2.2.1 q.2.1 S.1.2.1 then none else some (doS S.1 q, S.2)) = some S' ∧ _) ∨ ((if (fdS l1 1 q.2.1).isSome = true ∨ (fdS l1 2 q.2.1).isSome = true ∨ 0 < ctL S.1.2.2.1 q.2.1 S.1.2.1 then none else some (doS S.1 q, S.2)) = none ∧ _))
      have S2 : ∀ Q : Option Value → am_S → Prop, am_Call L xs (d + 4) 120 [.ref 121, .int (nI (120 + k)), .int (nI n)] (mk s) Q = am_Rn L xs (d + 4) 120 129 [.ref 121, .int (nI (120 + k)), .int (nI n), .int q.2.1, .int p, .int b, .retAddr 0] [.int (o80 (fdS l1 1 q.2.1))] (mk s) Q := fun Q => by
        rw [S1 Q]
        simp only [r120_118, r120_123, r120_124, r120_125, r120_126, am_li0, am_liS, am_laR0, am_tL, m_oc, fs, m0, if_true, am_okI, am_okR, List.length_cons, List.length_nil, Nat.reduceAdd, Nat.zero_le, Nat.reduceLeDiff, and_true, true_and]
      cases hf1 : fdS l1 1 q.2.1 with
      | some j =>
        obtain ⟨-, j2, -⟩ := fiF_some hf1
        obtain ⟨-, j3⟩ := o80_p (j := j) (by omega)
        rw [hf1] at S2
        refine ⟨s, frMm_r s, Or.inr ⟨if_pos (Or.inl rfl), fun Q => ?_⟩⟩
        rw [S2 Q]
        simp only [r120_129, r120_149, r120_150, j3, if_true, true_or, eq_self]
      | none =>
        rw [hf1, o80_n] at S2
        have S3 : ∀ Q : Option Value → am_S → Prop, am_Call L xs (d + 4) 120 [.ref 121, .int (nI (120 + k)), .int (nI n)] (mk s) Q = am_Rn L xs (d + 4) 120 138 [.ref 121, .int (nI (120 + k)), .int (nI n), .int q.2.1, .int p, .int b, .retAddr 0] [.int (o80 (fdS l1 2 q.2.1))] (mk s) Q := fun Q => by
          rw [S2 Q]
          simp only [r120_129, r120_132, r120_133, r120_134, r120_135, am_li0, am_liS, am_laR0, am_tL, m_oc, fs, m0', if_false, am_okI, am_okR, List.length_cons, List.length_nil, Nat.reduceAdd, Nat.zero_le, Nat.reduceLeDiff, and_true, true_and]
        cases hf2 : fdS l1 2 q.2.1 with
        | some j =>
          obtain ⟨-, j2, -⟩ := fiF_some hf2
          obtain ⟨-, j3⟩ := o80_p (j := j) (by omega)
          rw [hf2] at S3
          refine ⟨s, frMm_r s, Or.inr ⟨if_pos (Or.inr (Or.inl rfl)), fun Q => ?_⟩⟩
          rw [S3 Q]
          simp only [r120_138, r120_149, r120_150, j3, if_true, true_or, eq_self]
        | none =>
          rw [hf2, o80_n] at S3
          have hc : ∀ Q : Option Value → am_S → Prop, am_Call L xs (d + 3) 127 [.ref 121, .int q.2.1] (mk s) Q = _ := fun Q => m_hasChildren hR h1 h2
          by_cases c : 0 < ctL S.1.2.2.1 q.2.1 S.1.2.1
          · rw [decide_eq_true c, b1] at hc
            refine ⟨s, frMm_r s, Or.inr ⟨if_pos (Or.inr (Or.inr c)), fun Q => ?_⟩⟩
            rw [S3 Q]
            simp only [r120_138, r120_141, r120_142, r120_143, r120_146, r120_149, r120_150, am_li0, am_liS, am_laR0, am_tL, m_oc, hc, m0', n1, if_false, am_okI, am_okR, List.length_cons, List.length_nil, Nat.reduceAdd, Nat.zero_le, Nat.reduceLeDiff, and_true, true_and, true_or, eq_self]
          · rw [decide_eq_false c, b0] at hc
            obtain ⟨s', c1, c2, c3, c4⟩ := m_does (L := L) (xs := xs) (d := d + 1) (at' := 120 + k) (v := x) (p := p) (b := b) (by omega) g0 g4 g5 hR h1 h2 (by omega) (Or.inr (Or.inr (Or.inr ⟨rfl, hxm⟩)))
            have ed : doS S.1 (3, nI x, p, b, q.2.2.2.2.1, q.2.2.2.2.2) = doS S.1 q := by
              obtain ⟨k', nd, p', b', y, lb⟩ := q
              dsimp only at a x2
              subst a; subst x2
              rw [doS_3 S.1 x (by omega), doS_3 S.1 x (by omega)]
            rw [ed] at c1 c2
            rw [← x2] at c4
            have c4 : ∀ Q : Option Value → am_S → Prop, am_Call L xs (d + 3) 114 [.ref 121, .int (nI (120 + k)), .int q.2.1, .int p, .int b] (mk s) Q = Q none (mk s') := c4
            refine ⟨s', frE_Mm c3, Or.inl ⟨(doS S.1 q, S.2), if_neg (fun w => ?_), mG_E h' c3 c1 c2, fun Q => ?_⟩⟩
            · rcases w with w | w | w
              · cases w
              · cases w
              · exact c w
            · rw [S3 Q]
              simp only [r120_138, r120_141, r120_142, r120_143, r120_146, r120_151, r120_152, r120_153, r120_154, r120_156, r120_158, r120_161, r120_162, am_li0, am_liS, am_laR0, am_tL, am_tN, m_oc, hc, c4, m0', if_true, if_false, am_okI, am_okR, List.length_cons, List.length_nil, Nat.reduceAdd, Nat.zero_le, Nat.reduceLeDiff, and_true, true_and, or_true, eq_self]
end
