/-! merge: the reference's questions -/
def o80 : Option Nat → Int32
  | some k => nI (80 + k)
  | none => -1
theorem o80_s (k : Nat) : o80 (some k) = nI (80 + k) := rfl
theorem o80_n : o80 none = -1 := rfl
section
variable {L : Nat} {xs : Nat → Int32} {d : Nat} {s : St}
theorem a154' {i : Int32} {f : Int32 → Prop} : am_ai 1 (mk s) 154 i f = (am_in i 12 = true ∧ f (s.1 154 i.toNatClampNeg)) := am_k_ai (sk := in_sk) rfl
theorem w154' {i x : Int32} {f : am_S → Prop} : am_wi 1 (mk s) 154 i x f = (am_in i 12 = true ∧ f (mk (w1 s 154 i.toNatClampNeg x))) := am_k_wi (sk := in_sk) rfl
theorem a155' {i : Int32} {f : Int32 → Prop} : am_ai 0 (mk s) 155 i f = (am_in i 12 = true ∧ f (s.1 155 i.toNatClampNeg)) := am_k_ai (sk := in_sk) rfl
theorem w155' {i x : Int32} {f : am_S → Prop} : am_wi 0 (mk s) 155 i x f = (am_in i 12 = true ∧ f (mk (w1 s 155 i.toNatClampNeg x))) := am_k_wi (sk := in_sk) rfl
/-- where the reference stands between two steps of the second script -/
def mG (s : St) (n I : Nat) (l1 l2 : List Sp) (S : Mg) : Prop := mR s S.1 ∧ thA s S.1.2.1 ∧ msc s 2 l1 ∧ msc s 3 l2 ∧ s.1 145 2 = nI I ∧ (∀ j, j < S.2.1 → s.1 155 j = nI (S.2.2.1 j)) ∧ ∀ k j, j < 12 → k < l1.length → lg l1 0 k = 0 → lg l1 1 k = nI (n + j) → s.1 154 j = bI (S.2.2.2 k)
theorem msc_lg {i : Nat} {l : List Sp} (h : msc s i l) {j k : Nat} (hj : j < 6) (hk : k < l.length) : s.1 (139 + j) (40 * i + k) = lg l j k := by
  have hg : l[k]? = some l[k] := List.getElem?_eq_getElem hk
  rw [lg_at hg]; exact h.2 k _ hg j hj
theorem ix80 (k : Nat) : (80 : Int32) + nI k = nI (80 + k) := by
  show nI 80 + nI k = _
  rw [nI_add]
theorem m_named {n I m : Nat} {l1 l2 : List Sp} {S : Mg} {Q : Option Value → am_S → Prop} (h : mG s n I l1 l2 S) (hn : n ≤ 12) (hi : S.2.1 ≤ 12) (hm : m < n + S.2.1) : am_Call L xs d 121 [.ref 121, .int (nI m), .int (nI n)] (mk s) Q = Q (some (.int (mea n S.2.2.1 (nI m)))) (mk s) := by
  obtain ⟨-, -, -, -, -, gm, -⟩ := h
  unfold mea
  rw [if_neg (nI_pos (by omega)), nI_clamp (by omega)]
  by_cases c : m < n
  · have c1 : ¬ nI n ≤ nI m := nI_ge c (by omega)
    rw [if_pos c]
    simp only [e121, r121_0, r121_1, r121_2, r121_5, r121_6, r121_17, am_li0, am_liS, am_laR0, c1, if_false]
  · have c1 : nI n ≤ nI m := nI_le (by omega) (by omega)
    have e := (sub_k ⟨n, by omega⟩ ⟨m, by omega⟩).2.1 (show n ≤ m by omega)
    have e : nI m - nI n = nI (m - n) := e
    have c2 : am_in (nI (m - n)) 12 = true := in_of (by omega) (by decide)
    have c3 : (nI (m - n)).toNatClampNeg = m - n := nI_clamp (by omega)
    have c4 := gm (m - n) (by omega)
    rw [if_neg c]
    simp only [e121, r121_0, r121_1, r121_2, r121_9, r121_10, r121_13, r121_14, r121_15, r121_16, r121_17, am_li0, am_liS, am_laR0, g121_39, a155', c1, e, c2, c3, c4, if_true, true_and]
theorem m_fs_loop {l : List Sp} {a b : Int32} {Q : Option Value → am_S → Prop} (hs : msc s 2 l) (hl : l.length ≤ 24) : ∀ (m i : Nat), l.length - i = m → i ≤ l.length →
    am_Rn L xs d 126 3 [.ref 121, .int a, .int b, .int (nI (80 + i))] [] (mk s) Q = Q (some (.int (o80 (fiF (sP l a b) m i)))) (mk s)
  | 0, i, hm, hi => by
    have e : i = l.length := by omega
    subst e
    have h1 : nI (80 + l.length) ≤ nI (80 + l.length) := nI_le (Nat.le_refl _) (by omega)
    have z1 : am_in 2 4 = true := by decide
    have z2 : (2 : Int32).toNatClampNeg = 2 := rfl
    rw [r126_3]
    simp only [r126_4, r126_6, r126_7, r126_10, r126_11, r126_12, r126_13, r126_44, r126_45, am_li0, am_liS, am_laR0, g121_18, a138, hs.1, z1, z2, ix80, h1, if_true, true_and]
    rfl
  | m + 1, i, hm, hi => by
    have h1 : ¬ nI (80 + l.length) ≤ nI (80 + i) := nI_ge (by omega) (by omega)
    have z1 : am_in 2 4 = true := by decide
    have z2 : (2 : Int32).toNatClampNeg = 2 := rfl
    have i1 : am_in (nI (80 + i)) 160 = true := in_of (by omega) (by decide)
    have i2 : (nI (80 + i)).toNatClampNeg = 80 + i := nI_clamp (by omega)
    have q0 : s.1 139 (80 + i) = lg l 0 i := msc_lg hs (show 0 < 6 by decide) (show i < l.length by omega)
    have q1 : s.1 140 (80 + i) = lg l 1 i := msc_lg hs (show 1 < 6 by decide) (show i < l.length by omega)
    have e9 : nI (80 + i) + 1 = nI (80 + (i + 1)) := nI_1 (80 + i)
    have ih := m_fs_loop (a := a) (b := b) (Q := Q) hs hl m (i + 1) (by omega) (by omega)
    rw [fiF_s, r126_3]
    by_cases c1 : lg l 0 i = a
    · by_cases c2 : lg l 1 i = b
      · have c : sP l a b i = true := by unfold sP; rw [decide_eq_true c1, decide_eq_true c2]; rfl
        rw [if_pos c, o80_s]
        simp only [r126_4, r126_6, r126_7, r126_10, r126_11, r126_12, r126_13, r126_16, r126_17, r126_20, r126_21, r126_22, r126_23, r126_26, r126_27, r126_30, r126_31, r126_32, r126_33, r126_36, r126_37, am_li0, am_liS, am_laR0, g121_18, g121_19, g121_20, a138, a139, a140, hs.1, z1, z2, ix80, h1, i1, i2, q0, q1, c1, c2, not_true, if_false, true_and]
      · have c : ¬ sP l a b i = true := by unfold sP; rw [decide_eq_false c2, Bool.and_false]; decide
        rw [if_neg c, ← ih]
        simp only [r126_4, r126_6, r126_7, r126_10, r126_11, r126_12, r126_13, r126_16, r126_17, r126_20, r126_21, r126_22, r126_23, r126_26, r126_27, r126_30, r126_31, r126_32, r126_33, r126_38, r126_41, am_li0, am_liS, am_laR0, g121_18, g121_19, g121_20, a138, a139, a140, hs.1, z1, z2, ix80, h1, i1, i2, q0, q1, c1, c2, e9, not_true, not_false_eq_true, if_true, if_false, List.set_cons_succ, List.set_cons_zero, true_and]
    · have c : ¬ sP l a b i = true := by unfold sP; rw [decide_eq_false c1, Bool.false_and]; decide
      rw [if_neg c, ← ih]
      simp only [r126_4, r126_6, r126_7, r126_10, r126_11, r126_12, r126_13, r126_16, r126_17, r126_20, r126_21, r126_22, r126_23, r126_38, r126_41, am_li0, am_liS, am_laR0, g121_18, g121_19, a138, a139, hs.1, z1, z2, ix80, h1, i1, i2, q0, c1, e9, not_false_eq_true, if_true, if_false, List.set_cons_succ, List.set_cons_zero, true_and]
theorem m_first {l : List Sp} {a b : Int32} {Q : Option Value → am_S → Prop} (hs : msc s 2 l) (hl : l.length ≤ 24) : am_Call L xs d 126 [.ref 121, .int a, .int b] (mk s) Q = Q (some (.int (o80 (fdS l a b)))) (mk s) := by
  have r := m_fs_loop (L := L) (xs := xs) (d := d) (a := a) (b := b) (Q := Q) hs hl l.length 0 rfl (Nat.zero_le _)
  have r : am_Rn L xs d 126 3 [.ref 121, .int a, .int b, .int 80] [] (mk s) Q = _ := r
  refine Eq.trans ?_ r
  simp only [e126, r126_0, r126_2, List.length_cons, List.length_nil, List.set_cons_succ, List.set_cons_zero, Nat.reduceAdd, Nat.reduceLT, true_and]
theorem m_ai_loop {n I k : Nat} {l1 l2 : List Sp} {S : Mg} {p b : Int32} {Q : Option Value → am_S → Prop} (h : mG s n I l1 l2 S) (hn : n ≤ 12) (hI : knC 0 l1 ≤ 12) (hnu : nuS n 0 l1) (hl : l1.length ≤ 24) (hl2 : l2.length ≤ 24) (hk : k < l2.length) : ∀ (m i : Nat) (v6 : Value), l1.length - i = m → i ≤ l1.length →
    am_Rn L xs d 123 4 [.ref 121, .int (nI (120 + k)), .int p, .int b, .int (nI n), .int (nI (80 + i)), v6] [] (mk s) Q = Q (some (.int (o80 (fiF (tP l1 S.2.2.2 p b (lg l2 4 k) (lg l2 5 k)) m i)))) (mk s)
  | 0, i, v6, hm, hi => by
    obtain ⟨-, -, hs, -⟩ := h
    have e : i = l1.length := by omega
    subst e
    have h1 : nI (80 + l1.length) ≤ nI (80 + l1.length) := nI_le (Nat.le_refl _) (by omega)
    have z1 : am_in 2 4 = true := by decide
    have z2 : (2 : Int32).toNatClampNeg = 2 := rfl
    rw [r123_4]
    simp only [r123_6, r123_8, r123_9, r123_12, r123_13, r123_14, r123_15, r123_121, r123_122, am_li0, am_liS, am_laR0, g121_18, a138, hs.1, z1, z2, ix80, h1, if_true, true_and]
    rfl
  | m + 1, i, v6, hm, hi => by
    have h' := h
    obtain ⟨-, -, hs, hs2, -, -, ht⟩ := h
    have h1 : ¬ nI (80 + l1.length) ≤ nI (80 + i) := nI_ge (by omega) (by omega)
    have z1 : am_in 2 4 = true := by decide
    have z2 : (2 : Int32).toNatClampNeg = 2 := rfl
    have n1 : ¬ (1 : Int32) = 0 := by decide
    have i1 : am_in (nI (80 + i)) 160 = true := in_of (by omega) (by decide)
    have i2 : (nI (80 + i)).toNatClampNeg = 80 + i := nI_clamp (by omega)
    have k1 : am_in (nI (120 + k)) 160 = true := in_of (by omega) (by decide)
    have k2 : (nI (120 + k)).toNatClampNeg = 120 + k := nI_clamp (by omega)
    have il : i < l1.length := by omega
    have q0 : s.1 139 (80 + i) = lg l1 0 i := msc_lg hs (show 0 < 6 by decide) il
    have q1 : s.1 140 (80 + i) = lg l1 1 i := msc_lg hs (show 1 < 6 by decide) il
    have q2 : s.1 141 (80 + i) = lg l1 2 i := msc_lg hs (show 2 < 6 by decide) il
    have q3 : s.1 142 (80 + i) = lg l1 3 i := msc_lg hs (show 3 < 6 by decide) il
    have q4 : s.1 143 (80 + i) = lg l1 4 i := msc_lg hs (show 4 < 6 by decide) il
    have q5 : s.1 144 (80 + i) = lg l1 5 i := msc_lg hs (show 5 < 6 by decide) il
    have r4 : s.1 143 (120 + k) = lg l2 4 k := msc_lg hs2 (show 4 < 6 by decide) hk
    have r5 : s.1 144 (120 + k) = lg l2 5 k := msc_lg hs2 (show 5 < 6 by decide) hk
    have e9 : nI (80 + i) + 1 = nI (80 + (i + 1)) := nI_1 (80 + i)
    have b0 : bI false = 0 := rfl
    have b1 : bI true = 1 := rfl
    have ih := fun v6 => m_ai_loop (p := p) (b := b) (Q := Q) h' hn hI hnu hl hl2 hk m (i + 1) v6 (by omega) (by omega)
    rw [fiF_s, r123_4]
    by_cases c1 : lg l1 0 i = 0
    · by_cases c4 : lg l1 4 i = lg l2 4 k
      · by_cases c5 : lg l1 5 i = lg l2 5 k
        · by_cases c2 : lg l1 2 i = p
          · by_cases c3 : lg l1 3 i = b
            · have hg : l1[i]? = some l1[i] := List.getElem?_eq_getElem il
              obtain ⟨j, j1, j2, -⟩ := nu_ins hnu hg (by rw [← c1, lg_at hg]; rfl)
              rw [Nat.add_zero] at j1
              have e1 : lg l1 1 i = nI (n + j) := by rw [lg_at hg]; exact j1
              have et := ht i j (by omega) il c1 e1
              rw [e1] at q1
              have es := (sub_k ⟨n, by omega⟩ ⟨n + j, by omega⟩).2.1 (show n ≤ n + j by omega)
              have es : nI (n + j) - nI n = nI (n + j - n) := es
              rw [show n + j - n = j by omega] at es
              have w1' : am_in (nI j) 12 = true := in_of (by omega) (by decide)
              have w2' : (nI j).toNatClampNeg = j := nI_clamp (by omega)
              cases c6 : S.2.2.2 i with
              | true =>
                rw [c6, b1] at et
                have c : ¬ tP l1 S.2.2.2 p b (lg l2 4 k) (lg l2 5 k) i = true := by unfold tP; rw [c6, Bool.not_true, Bool.and_false, Bool.false_and]; decide
                rw [if_neg c, ← ih (.int 1)]
                simp only [r123_6, r123_8, r123_9, r123_12, r123_13, r123_14, r123_15, r123_18, r123_19, r123_22, r123_24, r123_25, r123_28, r123_29, r123_32, r123_34, r123_35, r123_36, r123_39, r123_40, r123_41, r123_44, r123_45, r123_48, r123_50, r123_51, r123_52, r123_55, r123_56, r123_57, r123_60, r123_61, r123_64, r123_66, r123_67, r123_68, r123_71, r123_72, r123_75, r123_77, r123_78, r123_79, r123_82, r123_83, r123_87, r123_89, r123_91, r123_94, r123_95, r123_98, r123_99, r123_102, r123_104, r123_105, r123_107, r123_108, r123_109, r123_115, r123_118, am_li0, am_liS, am_laR0, g121_18, g121_19, g121_20, g121_21, g121_22, g121_23, g121_24, g121_38, a138, a139, a140, a141, a142, a143, a144, a154', hs.1, z1, z2, ix80, h1, i1, i2, k1, k2, q0, q1, q2, q3, q4, q5, r4, r5, c1, c2, c3, c4, c5, es, w1', w2', et, e9, n1, not_true, not_false_eq_true, if_true, if_false, List.length_cons, List.length_nil, List.set_cons_succ, List.set_cons_zero, Nat.reduceAdd, Nat.reduceLT, true_and]
              | false =>
                rw [c6, b0] at et
                have c : tP l1 S.2.2.2 p b (lg l2 4 k) (lg l2 5 k) i = true := by unfold tP; rw [c6, decide_eq_true c1, decide_eq_true c2, decide_eq_true c3, decide_eq_true c4, decide_eq_true c5]; rfl
                rw [if_pos c, o80_s]
                simp only [r123_6, r123_8, r123_9, r123_12, r123_13, r123_14, r123_15, r123_18, r123_19, r123_22, r123_24, r123_25, r123_28, r123_29, r123_32, r123_34, r123_35, r123_36, r123_39, r123_40, r123_41, r123_44, r123_45, r123_48, r123_50, r123_51, r123_52, r123_55, r123_56, r123_57, r123_60, r123_61, r123_64, r123_66, r123_67, r123_68, r123_71, r123_72, r123_75, r123_77, r123_78, r123_79, r123_82, r123_83, r123_87, r123_89, r123_91, r123_94, r123_95, r123_98, r123_99, r123_102, r123_104, r123_105, r123_107, r123_108, r123_109, r123_112, r123_114, am_li0, am_liS, am_laR0, g121_18, g121_19, g121_20, g121_21, g121_22, g121_23, g121_24, g121_38, a138, a139, a140, a141, a142, a143, a144, a154', hs.1, z1, z2, ix80, h1, i1, i2, k1, k2, q0, q1, q2, q3, q4, q5, r4, r5, c1, c2, c3, c4, c5, es, w1', w2', et, n1, not_true, if_false, List.length_cons, List.length_nil, List.set_cons_succ, List.set_cons_zero, Nat.reduceAdd, Nat.reduceLT, true_and]
            · have c : ¬ tP l1 S.2.2.2 p b (lg l2 4 k) (lg l2 5 k) i = true := by unfold tP; rw [decide_eq_false c3, Bool.and_false, Bool.false_and, Bool.and_false]; decide
              rw [if_neg c, ← ih (.int 0)]
              simp only [r123_6, r123_8, r123_9, r123_12, r123_13, r123_14, r123_15, r123_18, r123_19, r123_22, r123_24, r123_25, r123_28, r123_29, r123_32, r123_34, r123_35, r123_36, r123_39, r123_40, r123_41, r123_44, r123_45, r123_48, r123_50, r123_51, r123_52, r123_55, r123_56, r123_57, r123_60, r123_61, r123_64, r123_66, r123_67, r123_68, r123_71, r123_72, r123_75, r123_77, r123_78, r123_79, r123_86, r123_87, r123_89, r123_91, r123_115, r123_118, am_li0, am_liS, am_laR0, g121_18, g121_19, g121_21, g121_22, g121_23, g121_24, a138, a139, a141, a142, a143, a144, hs.1, z1, z2, ix80, h1, i1, i2, k1, k2, q0, q2, q3, q4, q5, r4, r5, c1, c2, c3, c4, c5, e9, not_true, not_false_eq_true, if_true, if_false, List.length_cons, List.length_nil, List.set_cons_succ, List.set_cons_zero, Nat.reduceAdd, Nat.reduceLT, true_and]
          · have c : ¬ tP l1 S.2.2.2 p b (lg l2 4 k) (lg l2 5 k) i = true := by unfold tP; rw [decide_eq_false c2, Bool.false_and, Bool.false_and, Bool.and_false]; decide
            rw [if_neg c, ← ih (.int 0)]
            simp only [r123_6, r123_8, r123_9, r123_12, r123_13, r123_14, r123_15, r123_18, r123_19, r123_22, r123_24, r123_25, r123_28, r123_29, r123_32, r123_34, r123_35, r123_36, r123_39, r123_40, r123_41, r123_44, r123_45, r123_48, r123_50, r123_51, r123_52, r123_55, r123_56, r123_57, r123_60, r123_61, r123_64, r123_66, r123_67, r123_68, r123_86, r123_87, r123_89, r123_91, r123_115, r123_118, am_li0, am_liS, am_laR0, g121_18, g121_19, g121_21, g121_23, g121_24, a138, a139, a141, a143, a144, hs.1, z1, z2, ix80, h1, i1, i2, k1, k2, q0, q2, q4, q5, r4, r5, c1, c2, c4, c5, e9, not_true, not_false_eq_true, if_true, if_false, List.length_cons, List.length_nil, List.set_cons_succ, List.set_cons_zero, Nat.reduceAdd, Nat.reduceLT, true_and]
        · have c : ¬ tP l1 S.2.2.2 p b (lg l2 4 k) (lg l2 5 k) i = true := by unfold tP; rw [decide_eq_false c5, Bool.and_false, Bool.and_false, Bool.and_false]; decide
          rw [if_neg c, ← ih (.int 0)]
          simp only [r123_6, r123_8, r123_9, r123_12, r123_13, r123_14, r123_15, r123_18, r123_19, r123_22, r123_24, r123_25, r123_28, r123_29, r123_32, r123_34, r123_35, r123_36, r123_39, r123_40, r123_41, r123_44, r123_45, r123_48, r123_50, r123_51, r123_52, r123_55, r123_56, r123_57, r123_86, r123_87, r123_89, r123_91, r123_115, r123_118, am_li0, am_liS, am_laR0, g121_18, g121_19, g121_23, g121_24, a138, a139, a143, a144, hs.1, z1, z2, ix80, h1, i1, i2, k1, k2, q0, q4, q5, r4, r5, c1, c4, c5, e9, not_true, not_false_eq_true, if_true, if_false, List.length_cons, List.length_nil, List.set_cons_succ, List.set_cons_zero, Nat.reduceAdd, Nat.reduceLT, true_and]
      · have c : ¬ tP l1 S.2.2.2 p b (lg l2 4 k) (lg l2 5 k) i = true := by unfold tP; rw [decide_eq_false c4, Bool.false_and, Bool.and_false, Bool.and_false]; decide
        rw [if_neg c, ← ih (.int 0)]
        simp only [r123_6, r123_8, r123_9, r123_12, r123_13, r123_14, r123_15, r123_18, r123_19, r123_22, r123_24, r123_25, r123_28, r123_29, r123_32, r123_34, r123_35, r123_36, r123_39, r123_40, r123_41, r123_86, r123_87, r123_89, r123_91, r123_115, r123_118, am_li0, am_liS, am_laR0, g121_18, g121_19, g121_23, a138, a139, a143, hs.1, z1, z2, ix80, h1, i1, i2, k1, k2, q0, q4, r4, c1, c4, e9, not_true, not_false_eq_true, if_true, if_false, List.length_cons, List.length_nil, List.set_cons_succ, List.set_cons_zero, Nat.reduceAdd, Nat.reduceLT, true_and]
    · have c : ¬ tP l1 S.2.2.2 p b (lg l2 4 k) (lg l2 5 k) i = true := by unfold tP; rw [decide_eq_false c1, Bool.false_and, Bool.false_and]; decide
      rw [if_neg c, ← ih (.int 0)]
      simp only [r123_6, r123_8, r123_9, r123_12, r123_13, r123_14, r123_15, r123_18, r123_19, r123_22, r123_24, r123_25, r123_86, r123_87, r123_89, r123_91, r123_115, r123_118, am_li0, am_liS, am_laR0, g121_18, g121_19, a138, a139, hs.1, z1, z2, ix80, h1, i1, i2, q0, c1, e9, not_false_eq_true, if_true, if_false, List.length_cons, List.length_nil, List.set_cons_succ, List.set_cons_zero, Nat.reduceAdd, Nat.reduceLT, true_and]
theorem m_alikeInsert {n I k : Nat} {l1 l2 : List Sp} {S : Mg} {p b : Int32} {Q : Option Value → am_S → Prop} (h : mG s n I l1 l2 S) (hn : n ≤ 12) (hI : knC 0 l1 ≤ 12) (hnu : nuS n 0 l1) (hl : l1.length ≤ 24) (hl2 : l2.length ≤ 24) (hk : k < l2.length) : am_Call L xs d 123 [.ref 121, .int (nI (120 + k)), .int p, .int b, .int (nI n)] (mk s) Q = Q (some (.int (o80 (fdT l1 S.2.2.2 p b (lg l2 4 k) (lg l2 5 k))))) (mk s) := by
  have r := m_ai_loop (L := L) (xs := xs) (d := d) (p := p) (b := b) (Q := Q) h hn hI hnu hl hl2 hk l1.length 0 (.retAddr 0) rfl (Nat.zero_le _)
  have r : am_Rn L xs d 123 4 [.ref 121, .int (nI (120 + k)), .int p, .int b, .int (nI n), .int 80, .retAddr 0] [] (mk s) Q = _ := r
  refine Eq.trans ?_ r
  simp only [e123, r123_0, r123_2, List.length_cons, List.length_nil, List.set_cons_succ, List.set_cons_zero, Nat.reduceAdd, Nat.reduceLT, true_and]
/-- is it there -/
theorem th_hs {R : Rs} (hR : rOk R) (ht : thA s R.2.1) {m : Nat} (hm : m < 36) : s.1 147 m = bI (hsB R.2.1 (nI m)) := by
  rw [ht m hm]
  congr 1
  rw [Bool.eq_iff_iff, decide_eq_true_iff, hsB_iff]
  constructor
  · exact fun q => ⟨m, q, rfl⟩
  · rintro ⟨m', m1, m2⟩
    rw [(nI_eq (by omega) (rOk_lt hR m' m1)).mp m2]; exact m1
theorem hs_m1 {R : Rs} (hR : rOk R) : hsB R.2.1 (-1) = false := by
  cases e : hsB R.2.1 (-1) with
  | false => rfl
  | true =>
    obtain ⟨m, m1, m2⟩ := hsB_iff.mp e
    exact absurd m2.symm (nI_m1 m (rOk_lt hR m m1))
theorem m_fitsUnder {R : Rs} {p b : Int32} {Q : Option Value → am_S → Prop} (hR : rOk R) (h : mR s R) (ht : thA s R.2.1) (hp : rfO 36 p) (hb : rfO 36 b) : am_Call L xs (d + 1) 124 [.ref 121, .int p, .int b] (mk s) Q = Q (some (.int (bI (canB R p b)))) (mk s) := by
  have n1 : ¬ (1 : Int32) = 0 := by decide
  have b0 : bI false = 0 := rfl
  have b1 : bI true = 1 := rfl
  have m0 : (-1 : Int32) < 0 := by decide
  have pr : ∀ Q : Option Value → am_S → Prop, am_Call L xs d 125 [.ref 121, .int p] (mk s) Q = Q (some (.int (bI (decide (p = -1) || hsB R.2.1 p)))) (mk s) := by
    intro Q
    rcases hp with rfl | ⟨m, m1, rfl⟩
    · rw [decide_eq_true rfl, Bool.true_or, b1]
      simp only [e125, r125_0, r125_1, r125_13, r125_14, r125_18, am_li0, am_liS, m0, if_true, or_true, eq_self]
    · have c0 : ¬ nI m < 0 := nI_pos (by omega)
      have k1 : am_in (nI m) 36 = true := in_of m1 (by decide)
      have k2 : (nI m).toNatClampNeg = m := nI_clamp (by omega)
      have et := th_hs hR ht m1
      rw [decide_eq_false (nI_m1 m (by omega)), Bool.false_or]
      cases hh : hsB R.2.1 (nI m) with
      | true =>
        rw [hh, b1] at et
        rw [b1]
        simp only [e125, r125_0, r125_1, r125_4, r125_5, r125_8, r125_9, r125_10, r125_13, r125_14, r125_18, am_li0, am_liS, am_laR0, g121_30, a147, c0, k1, k2, et, n1, if_false, true_and, or_true, eq_self]
      | false =>
        rw [hh, b0] at et
        rw [b0]
        simp only [e125, r125_0, r125_1, r125_4, r125_5, r125_8, r125_9, r125_10, r125_17, r125_18, am_li0, am_liS, am_laR0, g121_30, a147, c0, k1, k2, et, if_true, if_false, true_and, true_or, eq_self]
  unfold canB
  cases hA : (decide (p = -1) || hsB R.2.1 p) with
  | false =>
    rw [hA, b0] at pr
    rw [Bool.false_and, b0]
    simp only [e124, r124_0, r124_1, r124_2, r124_5, r124_35, r124_36, am_li0, am_liS, am_laR0, am_tL, m_oc, pr, if_true, am_okI, am_okR, List.length_cons, List.length_nil, Nat.reduceAdd, Nat.zero_le, Nat.reduceLeDiff, and_true, true_and, true_or, eq_self]
  | true =>
    rw [hA, b1] at pr
    rw [Bool.true_and]
    rcases hb with rfl | ⟨m, m1, rfl⟩
    · rw [decide_eq_true rfl, Bool.true_or, b1]
      simp only [e124, r124_0, r124_1, r124_2, r124_5, r124_8, r124_9, r124_31, r124_32, r124_36, am_li0, am_liS, am_laR0, am_tL, m_oc, pr, m0, n1, if_true, if_false, am_okI, am_okR, List.length_cons, List.length_nil, Nat.reduceAdd, Nat.zero_le, Nat.reduceLeDiff, and_true, true_and, or_true, eq_self]
    · have c0 : ¬ nI m < 0 := nI_pos (by omega)
      have k1 : am_in (nI m) 36 = true := in_of m1 (by decide)
      have k2 : (nI m).toNatClampNeg = m := nI_clamp (by omega)
      have et := th_hs hR ht m1
      rw [decide_eq_false (nI_m1 m (by omega)), Bool.false_or, k2]
      cases hh : hsB R.2.1 (nI m) with
      | false =>
        rw [hh, b0] at et
        rw [Bool.false_and, b0]
        simp only [e124, r124_0, r124_1, r124_2, r124_5, r124_8, r124_9, r124_12, r124_13, r124_16, r124_17, r124_18, r124_35, r124_36, am_li0, am_liS, am_laR0, am_tL, m_oc, g121_30, a147, pr, c0, k1, k2, et, n1, if_true, if_false, am_okI, am_okR, List.length_cons, List.length_nil, Nat.reduceAdd, Nat.zero_le, Nat.reduceLeDiff, and_true, true_and, true_or, eq_self]
      | true =>
        rw [hh, b1] at et
        rw [Bool.true_and]
        obtain ⟨m', x1, x2⟩ := hsB_iff.mp hh
        have em : m = m' := (nI_eq (by omega) (rOk_lt hR m' x1)).mp x2
        subst em
        have ea := (h.2.2.2 m x1).1
        by_cases c : R.2.2.1 m = p
        · rw [c] at ea
          rw [decide_eq_true c, b1]
          simp only [e124, r124_0, r124_1, r124_2, r124_5, r124_8, r124_9, r124_12, r124_13, r124_16, r124_17, r124_18, r124_21, r124_22, r124_25, r124_26, r124_27, r124_28, r124_31, r124_32, r124_36, am_li0, am_liS, am_laR0, am_tL, m_oc, g121_30, g121_31, a147, a148, pr, c0, k1, k2, et, ea, n1, not_true, if_false, am_okI, am_okR, List.length_cons, List.length_nil, Nat.reduceAdd, Nat.zero_le, Nat.reduceLeDiff, and_true, true_and, or_true, eq_self]
        · rw [decide_eq_false c, b0]
          simp only [e124, r124_0, r124_1, r124_2, r124_5, r124_8, r124_9, r124_12, r124_13, r124_16, r124_17, r124_18, r124_21, r124_22, r124_25, r124_26, r124_27, r124_28, r124_35, r124_36, am_li0, am_liS, am_laR0, am_tL, m_oc, g121_30, g121_31, a147, a148, pr, c0, k1, k2, et, ea, c, n1, not_false_eq_true, if_true, if_false, am_okI, am_okR, List.length_cons, List.length_nil, Nat.reduceAdd, Nat.zero_le, Nat.reduceLeDiff, and_true, true_and, true_or, eq_self]
theorem m_wi_loop {R : Rs} {v : Nat} {p : Int32} {Q : Option Value → am_S → Prop} (hR : rOk R) (h : mR s R) (hcl : clR R) (hv : v < 2 ^ 31) : ∀ (m k : Nat) (u : Int32), 37 - k = m → k ≤ 37 → (u = -1 ∨ hsB R.2.1 u = true) →
    am_Rn L xs d 128 5 [.ref 121, .int p, .int (nI v), .int u, .int (nI k)] [] (mk s) Q = Q (some (.int (bI (wiF R v m u)))) (mk s)
  | 0, k, u, hm, hk, hu => by
    have e : k = 37 := by omega
    subst e
    have h1 : (37 : Int32) ≤ nI 37 := by decide
    have b0 : bI (wiF R v 0 u) = 0 := rfl
    rw [b0, r128_5]
    simp only [r128_7, r128_9, r128_36, r128_37, am_li0, am_liS, h1, if_true, true_or, eq_self]
  | m + 1, k, u, hm, hk, hu => by
    have h36 := hR.1
    have h1 : ¬ (37 : Int32) ≤ nI k := nI_ge (b := 37) (by omega) (by decide)
    have b0 : bI false = 0 := rfl
    have b1 : bI true = 1 := rfl
    rw [wiF_s, r128_5]
    rcases hu with rfl | hu
    · have m0 : (-1 : Int32) < 0 := by decide
      rw [hs_m1 hR, Bool.false_and, b0]
      simp only [r128_7, r128_9, r128_12, r128_13, r128_36, r128_37, am_li0, am_liS, h1, m0, if_true, if_false, true_or, eq_self]
    · rw [hu, Bool.true_and]
      obtain ⟨z, z1, rfl⟩ := hsB_iff.mp hu
      have zu := hR.2.2.1 z z1
      have c0 : ¬ nI z < 0 := nI_pos (by omega)
      have k1 : am_in (nI z) 36 = true := in_of (by omega) (by decide)
      have k2 : (nI z).toNatClampNeg = z := nI_clamp (by omega)
      have ea := (h.2.2.2 z z1).1
      by_cases e : nI z = nI v
      · rw [decide_eq_true e, Bool.true_or, b1]
        simp only [r128_7, r128_9, r128_12, r128_13, r128_16, r128_17, r128_18, r128_21, r128_22, am_li0, am_liS, h1, c0, e, not_true, if_false, or_true, eq_self]
        have c0' : ¬ nI v < 0 := nI_pos hv
        simp only [c0', if_false]
      · have hu' : R.2.2.1 z = -1 ∨ hsB R.2.1 (R.2.2.1 z) = true := by
          rcases hcl z z1 with q | ⟨m', m1, m2⟩
          · exact Or.inl q
          · exact Or.inr (hsB_iff.mpr ⟨m', m1, m2⟩)
        rw [decide_eq_false e, Bool.false_or, k2, ← m_wi_loop (p := p) (Q := Q) hR h hcl hv m (k + 1) (R.2.2.1 z) (by omega) (by omega) hu']
        simp only [r128_7, r128_9, r128_12, r128_13, r128_16, r128_17, r128_18, r128_23, r128_24, r128_27, r128_28, r128_29, r128_30, r128_33, am_li0, am_liS, am_laR0, g121_31, a148, h1, c0, e, ea, k1, k2, nI_1, not_false_eq_true, if_true, if_false, List.length_cons, List.length_nil, List.set_cons_succ, List.set_cons_zero, Nat.reduceAdd, Nat.reduceLT, true_and]
theorem m_within {R : Rs} {v : Nat} {p : Int32} {Q : Option Value → am_S → Prop} (hR : rOk R) (h : mR s R) (hcl : clR R) (hv : v < 2 ^ 31) (hp : p = -1 ∨ hsB R.2.1 p = true) : am_Call L xs d 128 [.ref 121, .int p, .int (nI v)] (mk s) Q = Q (some (.int (bI (wiF R v 37 p)))) (mk s) := by
  have r := m_wi_loop (L := L) (xs := xs) (d := d) (p := p) (Q := Q) hR h hcl hv 37 0 p rfl (by omega) hp
  have r : am_Rn L xs d 128 5 [.ref 121, .int p, .int (nI v), .int p, .int 0] [] (mk s) Q = _ := r
  rw [← r]
  simp only [e128, r128_0, r128_1, r128_2, r128_3, am_li0, am_liS, List.length_cons, List.length_nil, List.set_cons_succ, List.set_cons_zero, Nat.reduceAdd, Nat.reduceLT, true_and]
/-- has it children -/
def hcF (R : Rs) (x : Int32) : Nat → Bool
  | 0 => false
  | u + 1 => hcF R x u || (inB R.2.1 u && decide (R.2.2.1 u = x))
theorem hcF_s (R : Rs) (x : Int32) (u : Nat) : hcF R x (u + 1) = (hcF R x u || (inB R.2.1 u && decide (R.2.2.1 u = x))) := rfl
theorem hcF_iff {R : Rs} {x : Int32} : ∀ {u : Nat}, hcF R x u = true ↔ ∃ z, z < u ∧ z ∈ R.2.1 ∧ R.2.2.1 z = x
  | 0 => ⟨fun h => (by cases h), fun ⟨z, h, _⟩ => absurd h (Nat.not_lt_zero _)⟩
  | u + 1 => by
    rw [hcF_s, Bool.or_eq_true, hcF_iff, Bool.and_eq_true, decide_eq_true_iff]
    unfold inB
    rw [decide_eq_true_iff]
    constructor
    · rintro (⟨z, z1, z2⟩ | h)
      · exact ⟨z, by omega, z2⟩
      · exact ⟨u, by omega, h⟩
    · rintro ⟨z, z1, z2⟩
      by_cases e : z = u
      · rw [e] at z2; exact Or.inr z2
      · exact Or.inl ⟨z, by omega, z2⟩
theorem m_hc_loop {R : Rs} {x : Int32} {Q : Option Value → am_S → Prop} (hR : rOk R) (h : mR s R) (ht : thA s R.2.1) : ∀ (m u : Nat), R.1 - u = m → u ≤ R.1 →
    am_Rn L xs d 127 4 [.ref 121, .int x, .int (bI (hcF R x u)), .int (nI u)] [] (mk s) Q = Q (some (.int (bI (hcF R x R.1)))) (mk s)
  | 0, u, hm, hu => by
    have h36 := hR.1
    have e : u = R.1 := by omega
    subst e
    have h1 : nI R.1 ≤ nI R.1 := nI_le (Nat.le_refl _) (by omega)
    have hb := bI_01 (hcF R x R.1)
    rw [r127_4]
    simp only [r127_5, r127_6, r127_9, r127_47, am_li0, am_liS, am_laR0, g121_29, h.1, h1, if_true]
    rw [r127_48 hb]
  | m + 1, u, hm, hu => by
    have h36 := hR.1
    have h1 : ¬ nI R.1 ≤ nI u := nI_ge (by omega) (by omega)
    have k1 : am_in (nI u) 36 = true := in_of (by omega) (by decide)
    have k2 : (nI u).toNatClampNeg = u := nI_clamp (by omega)
    have n1 : ¬ (1 : Int32) = 0 := by decide
    have b0 : bI false = 0 := rfl
    have b1 : bI true = 1 := rfl
    have et := ht u (by omega)
    have ih := m_hc_loop (x := x) (Q := Q) hR h ht m (u + 1) (by omega) (by omega)
    rw [hcF_s] at ih
    rw [← ih, r127_4]
    cases ha : hcF R x u with
    | true =>
      rw [Bool.true_or, b1]
      simp only [r127_5, r127_6, r127_9, r127_12, r127_13, r127_35, r127_36, r127_40, r127_41, r127_44, am_li0, am_liS, am_laR0, g121_29, h.1, h1, n1, nI_1, not_false_eq_true, if_true, if_false, List.length_cons, List.length_nil, List.set_cons_succ, List.set_cons_zero, Nat.reduceAdd, Nat.reduceLT, true_and]
    | false =>
      rw [Bool.false_or, b0]
      by_cases hin : u ∈ R.2.1
      · rw [decide_eq_true hin, b1] at et
        have ea := (h.2.2.2 u hin).1
        rw [show inB R.2.1 u = true from decide_eq_true hin, Bool.true_and]
        by_cases c : R.2.2.1 u = x
        · rw [c] at ea
          rw [decide_eq_true c, b1]
          simp only [r127_5, r127_6, r127_9, r127_12, r127_13, r127_16, r127_17, r127_20, r127_21, r127_22, r127_25, r127_26, r127_29, r127_30, r127_31, r127_32, r127_35, r127_36, r127_40, r127_41, r127_44, am_li0, am_liS, am_laR0, g121_29, g121_30, g121_31, a147, a148, h.1, h1, k1, k2, et, ea, n1, nI_1, not_true, if_false, List.length_cons, List.length_nil, List.set_cons_succ, List.set_cons_zero, Nat.reduceAdd, Nat.reduceLT, true_and]
        · rw [decide_eq_false c, b0]
          simp only [r127_5, r127_6, r127_9, r127_12, r127_13, r127_16, r127_17, r127_20, r127_21, r127_22, r127_25, r127_26, r127_29, r127_30, r127_31, r127_32, r127_39, r127_40, r127_41, r127_44, am_li0, am_liS, am_laR0, g121_29, g121_30, g121_31, a147, a148, h.1, h1, k1, k2, et, ea, c, n1, nI_1, not_true, not_false_eq_true, if_true, if_false, List.length_cons, List.length_nil, List.set_cons_succ, List.set_cons_zero, Nat.reduceAdd, Nat.reduceLT, true_and]
      · rw [decide_eq_false hin, b0] at et
        rw [show inB R.2.1 u = false from decide_eq_false hin, Bool.false_and, b0]
        simp only [r127_5, r127_6, r127_9, r127_12, r127_13, r127_16, r127_17, r127_20, r127_21, r127_22, r127_39, r127_40, r127_41, r127_44, am_li0, am_liS, am_laR0, g121_29, g121_30, a147, h.1, h1, k1, k2, et, nI_1, not_true, if_true, if_false, List.length_cons, List.length_nil, List.set_cons_succ, List.set_cons_zero, Nat.reduceAdd, Nat.reduceLT, true_and]
theorem m_hasChildren {R : Rs} {x : Int32} {Q : Option Value → am_S → Prop} (hR : rOk R) (h : mR s R) (ht : thA s R.2.1) : am_Call L xs d 127 [.ref 121, .int x] (mk s) Q = Q (some (.int (bI (decide (0 < ctL R.2.2.1 x R.2.1))))) (mk s) := by
  have e : hcF R x R.1 = decide (0 < ctL R.2.2.1 x R.2.1) := by
    rw [Bool.eq_iff_iff, hcF_iff, decide_eq_true_iff, ctL_pos]
    constructor
    · rintro ⟨z, -, z2⟩; exact ⟨z, z2⟩
    · rintro ⟨z, z1, z2⟩; exact ⟨z, hR.2.2.1 z z1, z1, z2⟩
  have r := m_hc_loop (L := L) (xs := xs) (d := d) (x := x) (Q := Q) hR h ht R.1 0 rfl (Nat.zero_le _)
  have r : am_Rn L xs d 127 4 [.ref 121, .int x, .int 0, .int 0] [] (mk s) Q = _ := r
  rw [← e, ← r]
  simp only [e127, r127_0, r127_1, r127_2, r127_3, List.length_cons, List.length_nil, List.set_cons_succ, List.set_cons_zero, Nat.reduceAdd, Nat.reduceLT, true_and]
end
