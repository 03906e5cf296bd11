/-! compare and alike, whole -/
theorem mT_128 {s : St} {j : Nat} {t : Tr} {g : Nat → Int32} (hm : mT s j t) : mT (va_up s.1 128 g, s.2) j t := by
  unfold mT
  dsimp only
  rw [up_ne _ _ (by decide), up_ne _ _ (by decide), up_ne _ _ (by decide), up_ne _ _ (by decide)]
  exact hm
section
variable {L : Nat} {xs : Nat → Int32} {d : Nat} {s : St}
theorem m_cmp_head {j j' : Nat} {t w : Tr} (h : j < 3) (h' : j' < 3) (hm : mT s j t) (hm' : mT s j' w) (hw : tW t) (hw' : tW w) {x y : Nat} (hx : x < t.1) (hy : y < w.1) (hg : smP t w x 12 (s.1 128)) (v5 v6 v7 v8 : Value) :
    ∃ v6' v7' v8' : Value, ∀ Q : Option Value → am_S → Prop, am_Rn L xs (d + 1) 91 28 [.ref 121, .int (nI j), .int (nI j'), .int (nI x), .int (nI y), v5, v6, v7, v8] [] (mk s) Q =
    am_Rn L xs (d + 1) 91 191 [.ref 121, .int (nI j), .int (nI j'), .int (nI x), .int (nI y), .int (bI (alN t w x y)), v6', v7', v8'] [] (mk s) Q := by
  have h12 := hw.1
  have h12' := hw'.1
  have n1 : ¬ (1 : Int32) = 0 := by decide
  have b0 : bI false = 0 := rfl
  have h13 : ¬ (13 : Int32) ≤ 1 := by decide
  have e1 : (12 : Int32) * nI j + nI x = nI (12 * j + x) := by
    show nI 12 * nI j + nI x = _
    rw [pk_mul, nI_add]
  have e2 : (12 : Int32) * nI j' + nI y = nI (12 * j' + y) := by
    show nI 12 * nI j' + nI y = _
    rw [pk_mul, nI_add]
  have h6 : am_in (nI (12 * j + x)) 48 = true := in_of (by omega) (by decide)
  have h7 : (nI (12 * j + x)).toNatClampNeg = 12 * j + x := nI_clamp (by omega)
  have h8 : am_in (nI (12 * j' + y)) 48 = true := in_of (by omega) (by decide)
  have h9 : (nI (12 * j' + y)).toNatClampNeg = 12 * j' + y := nI_clamp (by omega)
  have mc1 : ∀ Q : Option Value → am_S → Prop, am_Call L xs d 92 [.ref 121, .int (nI j), .int (nI x), .int 0] (mk s) Q = Q (some (.int (oI (kd t x 0)))) (mk s) := fun Q => m_child (L := L) (xs := xs) (d := d) h hm hw hx (k := 0) (by omega) (Q := Q)
  have mc2 : ∀ Q : Option Value → am_S → Prop, am_Call L xs d 92 [.ref 121, .int (nI j'), .int (nI y), .int 0] (mk s) Q = Q (some (.int (oI (kd w y 0)))) (mk s) := fun Q => m_child (L := L) (xs := xs) (d := d) h' hm' hw' hy (k := 0) (by omega) (Q := Q)
  obtain ⟨-, t1, t2⟩ := hm.2 x hx
  obtain ⟨-, t3, t4⟩ := hm'.2 y hy
  by_cases ht : t.2.2.1 x = w.2.2.1 y
  · by_cases hl : t.2.2.2 x = w.2.2.2 y
    · obtain ⟨a6, a7, a8, hr⟩ := m_cmp_loop (L := L) (xs := xs) (d := d) h h' hm hm' hw hw' hx hy hg (kc t x) 0 (by omega) (by omega) (by omega)
      have hr : ∀ Q : Option Value → am_S → Prop, am_Rn L xs (d + 1) 91 109 [.ref 121, .int (nI j), .int (nI j'), .int (nI x), .int (nI y), .int 1, .int (oI (kd t x 0)), .int (oI (kd w y 0)), .int 1] [] (mk s) Q = _ := hr
      refine ⟨a6, a7, a8, fun Q => ?_⟩
      rw [alN_eq hw hx, decide_eq_true ht, decide_eq_true hl, Bool.and_self, Bool.true_and, ← hr Q]
      simp only [r91_28, r91_29, r91_32, r91_34, r91_35, r91_36, r91_37, r91_38, r91_39, r91_40, r91_43, r91_45, r91_46, r91_47, r91_49, r91_50, r91_51, r91_54, r91_55, r91_58, r91_60, r91_61, r91_62, r91_63, r91_64, r91_65, r91_66, r91_69, r91_71, r91_72, r91_73, r91_75, r91_76, r91_77, r91_80, r91_81, r91_85, r91_87, r91_88, r91_89, r91_90, r91_91, r91_94, r91_96, r91_97, r91_98, r91_100, r91_101, r91_104, r91_106, r91_107, am_li0, am_liS, am_laR0, m_oc, mc1, mc2, g121_2, g121_3, a124, a125, e1, e2, h6, h7, h8, h9, t1, t2, t3, t4, ht, hl, am_tL, am_okI, not_true, if_false, List.length_cons, List.length_nil, List.set_cons_succ, List.set_cons_zero, Nat.reduceAdd, Nat.reduceLT, Nat.zero_le, and_true, true_and]
    · refine ⟨.int (oI (kd t x 0)), .int (oI (kd w y 0)), .int 1, fun Q => ?_⟩
      rw [alN_eq hw hx, decide_eq_false hl, Bool.and_false, Bool.false_and, Bool.false_and, b0]
      simp only [r91_28, r91_29, r91_32, r91_34, r91_35, r91_36, r91_37, r91_38, r91_39, r91_40, r91_43, r91_45, r91_46, r91_47, r91_49, r91_50, r91_51, r91_54, r91_55, r91_58, r91_60, r91_61, r91_62, r91_63, r91_64, r91_65, r91_66, r91_69, r91_71, r91_72, r91_73, r91_75, r91_76, r91_77, r91_84, r91_85, r91_87, r91_88, r91_89, r91_90, r91_91, r91_94, r91_96, r91_97, r91_98, r91_100, r91_101, r91_104, r91_106, r91_107, r91_109, r91_111, r91_113, r91_116, r91_118, am_li0, am_liS, am_laR0, m_oc, mc1, mc2, g121_2, g121_3, a124, a125, e1, e2, h6, h7, h8, h9, t1, t2, t3, t4, ht, hl, h13, am_tL, am_okI, not_true, not_false_eq_true, if_true, if_false, List.length_cons, List.length_nil, List.set_cons_succ, List.set_cons_zero, Nat.reduceAdd, Nat.reduceLT, Nat.zero_le, and_true, true_and]
  · refine ⟨.int (oI (kd t x 0)), .int (oI (kd w y 0)), .int 1, fun Q => ?_⟩
    rw [alN_eq hw hx, decide_eq_false ht, Bool.false_and, Bool.false_and, Bool.false_and, b0]
    simp only [r91_28, r91_29, r91_32, r91_34, r91_35, r91_36, r91_37, r91_38, r91_39, r91_40, r91_43, r91_45, r91_46, r91_47, r91_49, r91_50, r91_51, r91_84, r91_85, r91_87, r91_88, r91_89, r91_90, r91_91, r91_94, r91_96, r91_97, r91_98, r91_100, r91_101, r91_104, r91_106, r91_107, r91_109, r91_111, r91_113, r91_116, r91_118, am_li0, am_liS, am_laR0, m_oc, mc1, mc2, g121_2, a124, e1, e2, h6, h7, h8, h9, t1, t3, ht, h13, am_tL, am_okI, not_false_eq_true, if_true, if_false, List.length_cons, List.length_nil, List.set_cons_succ, List.set_cons_zero, Nat.reduceAdd, Nat.reduceLT, Nat.zero_le, and_true, true_and]
theorem m_cmp_in {j j' : Nat} {t w : Tr} (h : j < 3) (h' : j' < 3) (hm : mT s j t) (hm' : mT s j' w) (hw : tW t) (hw' : tW w) {x : Nat} (hx : x < t.1) : ∀ (m : Nat) (g : Nat → Int32) (v5 v6 v7 v8 : Value), m ≤ w.1 → smP t w x m g →
    ∃ (g' : Nat → Int32) (v5' v6' v7' v8' : Value), smP t w x 0 g' ∧ ∀ Q : Option Value → am_S → Prop, am_Rn L xs (d + 1) 91 23 [.ref 121, .int (nI j), .int (nI j'), .int (nI x), .int (nI m - 1), v5, v6, v7, v8] [] (mk (va_up s.1 128 g, s.2)) Q =
    am_Rn L xs (d + 1) 91 211 [.ref 121, .int (nI j), .int (nI j'), .int (nI x), .int (-1), v5', v6', v7', v8'] [] (mk (va_up s.1 128 g', s.2)) Q
  | 0, g, v5, v6, v7, v8, hmw, hg => by
    have e0 : nI 0 - 1 = -1 := by decide
    have m1l : (-1 : Int32) < 0 := by decide
    refine ⟨g, v5, v6, v7, v8, hg, fun Q => ?_⟩
    rw [e0, r91_23]
    simp only [r91_25, am_li0, am_liS, m1l, if_true]
  | m + 1, g, v5, v6, v7, v8, hmw, hg => by
    have h12 := hw.1
    have h12' := hw'.1
    have h0 : ¬ nI m < 0 := nI_pos (by omega)
    have hg12 : smP t w x 12 g := by
      intro a c ha hc hq
      rcases hq with q | q
      · exact hg a c ha hc (Or.inl q)
      · omega
    obtain ⟨a6, a7, a8, hr⟩ := m_cmp_head (L := L) (xs := xs) (d := d) (s := (va_up s.1 128 g, s.2)) h h' (mT_128 hm) (mT_128 hm') hw hw' hx (show m < w.1 by omega) (by dsimp only; rw [up_same]; exact hg12) v5 v6 v7 v8
    have e1 : (12 : Int32) * nI x + nI m = nI (12 * x + m) := by
      show nI 12 * nI x + nI m = _
      rw [pk_mul, nI_add]
    have h6 : am_in (nI (12 * x + m)) 144 = true := in_of (by omega) (by decide)
    have h7 : (nI (12 * x + m)).toNatClampNeg = 12 * x + m := nI_clamp (by omega)
    obtain ⟨g', b5, b6, b7, b8, hg', hr'⟩ := m_cmp_in h h' hm hm' hw hw' hx m (upd g (12 * x + m) (bI (alN t w x m))) (.int (bI (alN t w x m))) a6 a7 a8 (by omega) (by
      intro a c ha hc hq
      by_cases e : 12 * a + c = 12 * x + m
      · have ea : a = x := by omega
        have ec : c = m := by omega
        rw [ea, ec, upd_s]
      · rw [upd_n _ _ e]
        refine hg a c ha hc ?_
        omega)
    refine ⟨g', b5, b6, b7, b8, hg', fun Q => ?_⟩
    rw [← hr' Q, nI_pred, r91_23]
    simp only [r91_25, am_li0, am_liS, h0, if_false]
    rw [hr Q]
    simp only [r91_191, r91_192, r91_195, r91_197, r91_198, r91_199, r91_201, r91_202, r91_204, r91_205, r91_208, am_li0, am_liS, am_laR0, g121_6, w128, e1, h6, h7, nb_bI, up_same, up_up, ad_m1, List.set_cons_succ, List.set_cons_zero, true_and]
theorem m_cmp_out {j j' : Nat} {t w : Tr} (h : j < 3) (h' : j' < 3) (hm : mT s j t) (hm' : mT s j' w) (hw : tW t) (hw' : tW w) : ∀ (m : Nat) (g : Nat → Int32) (v4 v5 v6 v7 v8 : Value), m ≤ t.1 → smP t w m 0 g →
    ∃ (g' : Nat → Int32), smP t w 0 0 g' ∧ ∀ Q : Option Value → am_S → Prop, am_Rn L xs (d + 1) 91 9 [.ref 121, .int (nI j), .int (nI j'), .int (nI m - 1), v4, v5, v6, v7, v8] [] (mk (va_up s.1 128 g, s.2)) Q = Q none (mk (va_up s.1 128 g', s.2))
  | 0, g, v4, v5, v6, v7, v8, hmw, hg => by
    have e0 : nI 0 - 1 = -1 := by decide
    have m1l : (-1 : Int32) < 0 := by decide
    refine ⟨g, hg, fun Q => ?_⟩
    rw [e0, r91_9]
    simp only [r91_10, r91_217, am_li0, am_liS, m1l, if_true]
  | m + 1, g, v4, v5, v6, v7, v8, hmw, hg => by
    have h12 := hw.1
    have h12' := hw'.1
    have h0 : ¬ nI m < 0 := nI_pos (by omega)
    have h2 : am_in (nI j') 4 = true := in_of (by omega) (by decide)
    have h3 : (nI j').toNatClampNeg = j' := nI_clamp (by omega)
    have h4 : va_up s.1 128 g 122 = s.1 122 := up_ne _ _ (by decide)
    obtain ⟨g1, b5, b6, b7, b8, hg1, hr1⟩ := m_cmp_in (L := L) (xs := xs) (d := d) h h' hm hm' hw hw' (show m < t.1 by omega) w.1 g v5 v6 v7 v8 (Nat.le_refl _) (by
      intro a c ha hc hq
      refine hg a c ha hc ?_
      omega)
    obtain ⟨g2, hg2, hr2⟩ := m_cmp_out h h' hm hm' hw hw' m g1 (.int (-1)) b5 b6 b7 b8 (by omega) hg1
    refine ⟨g2, hg2, fun Q => ?_⟩
    rw [← hr2 Q, nI_pred, r91_9]
    simp only [r91_10, r91_13, r91_14, r91_17, r91_18, r91_19, r91_20, r91_21, am_li0, am_liS, am_laR0, g121_0, a122, h0, h2, h3, h4, hm'.1, if_false, List.length_cons, List.length_nil, List.set_cons_succ, List.set_cons_zero, Nat.reduceAdd, Nat.reduceLT, true_and]
    rw [hr1 Q]
    simp only [r91_211, r91_214, am_li0, am_liS, ad_m1, List.set_cons_succ, List.set_cons_zero]
theorem m_compare {j j' : Nat} {t w : Tr} (h : j < 3) (h' : j' < 3) (hm : mT s j t) (hm' : mT s j' w) (hw : tW t) (hw' : tW w) : ∃ g' : Nat → Int32, (∀ a c, a < t.1 → c < w.1 → g' (12 * a + c) = bI (alN t w a c)) ∧
    ∀ Q : Option Value → am_S → Prop, am_Call L xs (d + 1) 91 [.ref 121, .int (nI j), .int (nI j')] (mk s) Q = Q none (mk (va_up s.1 128 g', s.2)) := by
  have h12 := hw.1
  have h2 : am_in (nI j) 4 = true := in_of (by omega) (by decide)
  have h3 : (nI j).toNatClampNeg = j := nI_clamp (by omega)
  obtain ⟨g', hg', hr⟩ := m_cmp_out (L := L) (xs := xs) (d := d) h h' hm hm' hw hw' t.1 (s.1 128) (.retAddr 0) (.retAddr 0) (.retAddr 0) (.retAddr 0) (.retAddr 0) (Nat.le_refl _) (by
    intro a c ha hc hq
    omega)
  refine ⟨g', fun a c ha hc => hg' a c ha hc (by omega), fun Q => ?_⟩
  have e : va_up s.1 128 (s.1 128) = s.1 := by
    funext q
    unfold va_up
    split
    next e => rw [e]
    next => rfl
  rw [← hr Q, e]
  simp only [e91, r91_0, r91_1, r91_4, r91_5, r91_6, r91_7, r91_8, am_li0, am_liS, am_laR0, g121_0, a122, h2, h3, hm.1, List.length_cons, List.length_nil, List.set_cons_succ, List.set_cons_zero, Nat.reduceAdd, Nat.reduceLT, true_and]
theorem m_alike1 {j j' : Nat} {t w : Tr} (h : j < 3) (h' : j' < 3) (hm : mT s j t) (hm' : mT s j' w) (hw : tW t) (hw' : tW w) {x y : Nat} (hx : x < t.1) (hy : y < w.1) : ∃ g' : Nat → Int32,
    ∀ Q : Option Value → am_S → Prop, am_Call L xs (d + 2) 90 [.ref 121, .int (nI j), .int (nI x), .int (nI j'), .int (nI y)] (mk s) Q = Q (some (.int (bI (alN t w x y)))) (mk (va_up s.1 128 g', s.2)) := by
  have h12 := hw.1
  have h12' := hw'.1
  obtain ⟨g', hg', hr⟩ := m_compare (L := L) (xs := xs) (d := d) h h' hm hm' hw hw'
  refine ⟨g', fun Q => ?_⟩
  have n1 : ¬ (1 : Int32) = 0 := by decide
  have e1 : (12 : Int32) * nI x + nI y = nI (12 * x + y) := by
    show nI 12 * nI x + nI y = _
    rw [pk_mul, nI_add]
  have h6 : am_in (nI (12 * x + y)) 144 = true := in_of (by omega) (by decide)
  have h7 : (nI (12 * x + y)).toNatClampNeg = 12 * x + y := nI_clamp (by omega)
  have h8 := hg' x y hx hy
  have h9 := bI_01 (alN t w x y)
  simp only [e90, r90_0, r90_1, r90_2, r90_3, r90_6, r90_9, r90_10, r90_11, r90_13, r90_16, r90_19, r90_20, r90_21, r90_22, r90_23, r90_24, r90_27, r90_28, r90_31, r90_33, r90_34, r90_35, r90_37, r90_38, r90_39, am_li0, am_liS, am_laR0, m_oc, m_isNodeT h hm.1 hw.1 ⟨x, hx, rfl⟩, m_isNodeT h' hm'.1 hw'.1 ⟨y, hy, rfl⟩, hr, g121_6, a128, e1, h6, h7, h8, h9, up_same, n1, am_tL, am_tN, am_okI, not_false_eq_true, if_true, if_false, List.length_cons, List.length_nil, Nat.zero_le, and_true, true_and]
theorem m_alikeN {j j' : Nat} {t w : Tr} (h : j < 3) (h' : j' < 3) (hm : mT s j t) (hm' : mT s j' w) (hw : tW t) (hw' : tW w) {b e : Int32} (hb : ¬ ((∃ i, i < t.1 ∧ b = nI i) ∧ ∃ i, i < w.1 ∧ e = nI i)) {Q : Option Value → am_S → Prop} :
    am_Call L xs (d + 2) 90 [.ref 121, .int (nI j), .int b, .int (nI j'), .int e] (mk s) Q = Q (some (.int 0)) (mk s) := by
  have n1 : ¬ (1 : Int32) = 0 := by decide
  by_cases hx : ∃ i, i < t.1 ∧ b = nI i
  · have hy : ¬ ∃ i, i < w.1 ∧ e = nI i := fun q => hb ⟨hx, q⟩
    simp only [e90, r90_0, r90_1, r90_2, r90_3, r90_6, r90_9, r90_10, r90_11, r90_13, r90_16, r90_19, r90_20, am_li0, am_liS, am_laR0, m_oc, m_isNodeT h hm.1 hw.1 hx, m_isNodeF h' hm'.1 hw'.1 hy, n1, am_tL, am_okI, not_true, if_true, if_false, true_or, eq_self, List.length_nil, Nat.zero_le, and_true, true_and]
  · simp only [e90, r90_0, r90_1, r90_2, r90_3, r90_6, r90_9, r90_10, r90_11, r90_13, r90_16, r90_19, r90_20, am_li0, am_liS, am_laR0, m_oc, m_isNodeF h hm.1 hw.1 hx, am_tL, am_okI, if_true, true_or, eq_self, List.length_nil, Nat.zero_le, and_true, true_and]
theorem c_alike1 {j j' : Nat} {t w : Tr} (h : j < 3) (h' : j' < 3) (hc : cT s (2 + 5 * j) t) (hc' : cT s (2 + 5 * j') w) (hw : tW t) (hw' : tW w) {x y : Nat} (hx : x < t.1) (hy : y < w.1) {Q : Option Value → am_S → Prop} :
    am_Call L xs (d + 43) 19 [.ref 0, .int (nI j), .int (nI x), .int (nI j'), .int (nI y)] (mk s) Q = Q (some (.int (bI (alN t w x y)))) (mk s) := by
  have h12 := hw.1
  have h12' := hw'.1
  have hF := isF_t h
  have hG := isF_t h'
  have hs : ∀ Q : Option Value → am_S → Prop, am_Call L xs (d + 42) 20 [.ref (2 + 5 * j), .int (nI x), .ref (2 + 5 * j'), .int (nI y), .int 0] (mk s) Q = Q (some (.int (bI (alN t w x y)))) (mk s) := by
    intro Q
    have e : alN t w x y = alkG (foS s (2 + 5 * j) t.1) (foS s (2 + 5 * j') w.1) 41 (nI x) (nI y) := by
      rw [alkG_tree hc hw hc' hw' 41 x y hx hy]
      exact alk_fuel hw 12 41 x y hx (by omega) (by omega)
    rw [e]
    exact c_sameTwig (L := L) (xs := xs) hF (by decide) hc.1 (by omega) hG (by decide) hc'.1 (by omega) 41 0 d (nI x) (nI y) Q rfl
  have n1 : ¬ (1 : Int32) = 0 := by decide
  have b0 : bI false = 0 := rfl
  have b1 : bI true = 1 := rfl
  cases ha : alN t w x y with
  | true =>
    rw [ha] at hs
    simp only [e19, r19_0, r19_1, r19_4, r19_7, r19_8, r19_11, r19_14, r19_15, r19_18, r19_19, r19_20, r19_21, r19_22, r19_25, r19_26, r19_27, r19_29, r19_30, r19_33, r19_36, r19_37, r19_40, r19_41, am_li0, am_liS, am_laR0, c_isTree1 h, c_isTree1 h', g0_0, t_tree h, t_tree h', hs, b1, n1, am_tL, am_okI, am_okR, if_false, or_true, eq_self, List.length_cons, List.length_nil, Nat.reduceAdd, Nat.reduceLeDiff, Nat.zero_le, and_true, true_and]
  | false =>
    rw [ha] at hs
    simp only [e19, r19_0, r19_1, r19_4, r19_7, r19_8, r19_11, r19_14, r19_15, r19_18, r19_19, r19_20, r19_21, r19_22, r19_25, r19_26, r19_27, r19_29, r19_30, r19_33, r19_36, r19_37, r19_40, r19_41, am_li0, am_liS, am_laR0, c_isTree1 h, c_isTree1 h', g0_0, t_tree h, t_tree h', hs, b0, n1, am_tL, am_okI, am_okR, if_true, if_false, true_or, eq_self, List.length_cons, List.length_nil, Nat.reduceAdd, Nat.reduceLeDiff, Nat.zero_le, and_true, true_and]
theorem alkG_no {a b : Fo} {f : Nat} {x y : Int32} (h : ¬ (foB a x = true ∧ foB b y = true)) : alkG a b f x y = false := by
  cases f with
  | zero => rfl
  | succ f =>
    rw [alkG]
    by_cases hx : foB a x = true
    · have hy : foB b y = false := by
        cases e : foB b y with
        | true => exact absurd ⟨hx, e⟩ h
        | false => rfl
      rw [hy]; simp only [Bool.and_false, Bool.false_and]
    · have hx : foB a x = false := by
        cases e : foB a x with
        | true => exact absurd e hx
        | false => rfl
      rw [hx]; simp only [Bool.false_and]
theorem c_alikeN {j j' : Nat} {t w : Tr} (h : j < 3) (h' : j' < 3) (hc : cT s (2 + 5 * j) t) (hc' : cT s (2 + 5 * j') w) (hw : tW t) (hw' : tW w) {b e : Int32} (hb : ¬ ((∃ i, i < t.1 ∧ b = nI i) ∧ ∃ i, i < w.1 ∧ e = nI i)) {Q : Option Value → am_S → Prop} :
    am_Call L xs (d + 43) 19 [.ref 0, .int (nI j), .int b, .int (nI j'), .int e] (mk s) Q = Q (some (.int 0)) (mk s) := by
  have h12 := hw.1
  have h12' := hw'.1
  have hF := isF_t h
  have hG := isF_t h'
  have b0 : bI false = 0 := rfl
  have hs : ∀ Q : Option Value → am_S → Prop, am_Call L xs (d + 42) 20 [.ref (2 + 5 * j), .int b, .ref (2 + 5 * j'), .int e, .int 0] (mk s) Q = Q (some (.int 0)) (mk s) := by
    intro Q
    have q := c_sameTwig (L := L) (xs := xs) hF (by decide) hc.1 (by omega) hG (by decide) hc'.1 (by omega) 41 0 d b e Q rfl
    rw [alkG_no (fun ⟨q1, q2⟩ => hb ⟨by
      unfold foB foS at q1
      obtain ⟨i, i1, i2, -⟩ := of_decide_eq_true q1
      exact ⟨i, i1, i2⟩, by
      unfold foB foS at q2
      obtain ⟨i, i1, i2, -⟩ := of_decide_eq_true q2
      exact ⟨i, i1, i2⟩⟩), b0] at q
    exact q
  have n1 : ¬ (1 : Int32) = 0 := by decide
  simp only [e19, r19_0, r19_1, r19_4, r19_7, r19_8, r19_11, r19_14, r19_15, r19_18, r19_19, r19_20, r19_21, r19_22, r19_25, r19_26, r19_27, r19_29, r19_30, r19_33, r19_36, r19_37, r19_40, r19_41, am_li0, am_liS, am_laR0, c_isTree1 h, c_isTree1 h', g0_0, t_tree h, t_tree h', hs, n1, am_tL, am_okI, am_okR, if_true, if_false, true_or, eq_self, List.length_cons, List.length_nil, Nat.reduceAdd, Nat.reduceLeDiff, Nat.zero_le, and_true, true_and]
end
