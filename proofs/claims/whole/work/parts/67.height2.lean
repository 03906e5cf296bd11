/-! Heights: the reference's climbing; the call height -/
section
variable {L : Nat} {xs : Nat → Int32} {d : Nat} {s : St} {Q : Option Value → am_S → Prop}
theorem m_climb {j : Nat} {t : Tr} (h : j < 3) (hm : mT s j t) (hw : tW t) {n : Nat} (hn : n < 12) {w x : Int32} : ∀ (v far : Nat), v < t.1 → far + v ≤ 100 → ∃ (v' far' : Nat), v' ≤ n ∧ far' ≤ far + v ∧ (v' = n → lev t n v = some (far' - far) ∧ far ≤ far') ∧ (v' ≠ n → lev t n v = none) ∧
    ∀ Q : Option Value → am_S → Prop, am_Rn L xs d 89 36 [.ref 121, .int (nI j), .int (nI n), .int w, .int x, .int (nI far), .int (nI v)] [] (mk s) Q = am_Rn L xs d 89 62 [.ref 121, .int (nI j), .int (nI n), .int w, .int x, .int (nI far'), .int (nI v')] [] (mk s) Q := by
  intro v
  induction v using Nat.strongRecOn with
  | ind v ih =>
    intro far hv hf
    have h12 := hw.1
    by_cases hvn : v ≤ n
    · refine ⟨v, far, hvn, by omega, fun e => ?_, fun e => ?_, fun Q => ?_⟩
      · rw [e, lev_self, Nat.sub_self]; exact ⟨rfl, Nat.le_refl _⟩
      · exact lev_lt t (by omega)
      · have h1 : nI v ≤ nI n := nI_le hvn (by omega)
        rw [r89_36]
        simp only [r89_38, r89_39, am_li0, am_liS, h1, if_true]
    · have hp := pm_lt t (show 0 < v by omega)
      have hpe := pm_eq hw (show 0 < v by omega) hv
      obtain ⟨v', far', g1, g2, g3, g4, g5⟩ := ih (pm t v) hp (far + 1) (by omega) (by omega)
      refine ⟨v', far', g1, by omega, fun e => ?_, fun e => ?_, fun Q => ?_⟩
      · obtain ⟨q1, q2⟩ := g3 e
        rw [lev_gt t (by omega), q1]
        refine ⟨?_, by omega⟩
        show some (far' - (far + 1) + 1) = _
        congr 1
        omega
      · rw [lev_gt t (by omega), g4 e]; rfl
      · rw [← g5 Q]
        have h1 : ¬ nI v ≤ nI n := nI_ge (by omega) (by omega)
        have e12 : (12 : Int32) * nI j + nI v = nI (12 * j + v) := by
          show nI 12 * nI j + nI v = _
          rw [pk_mul, nI_add]
        have h6 : am_in (nI (12 * j + v)) 48 = true := in_of (by omega) (by decide)
        have h7 : (nI (12 * j + v)).toNatClampNeg = 12 * j + v := nI_clamp (by omega)
        have h8 : s.1 123 (12 * j + v) = nI (pm t v) := (hm.2 v hv).1.trans hpe
        rw [r89_36]
        simp only [r89_38, r89_39, r89_42, r89_43, r89_46, r89_48, r89_49, r89_50, r89_52, r89_53, r89_54, r89_56, r89_59, am_li0, am_liS, am_laR0, g121_1, a123, e12, h1, h6, h7, h8, nI_1, if_false, List.length_cons, List.length_nil, List.set_cons_succ, List.set_cons_zero, Nat.reduceAdd, Nat.reduceLT, true_and]
theorem m_height_loop {j : Nat} {t : Tr} {H : Nat → Nat} (h : j < 3) (hm : mT s j t) (hw : tW t) (hH : hP t H) {n : Nat} (hn : n < t.1) {x y : Value} (hxy : True) : ∀ (m v M : Nat), t.1 - v = m → n < v → v ≤ t.1 → 1 ≤ M → M ≤ H n → (∀ v' k, n < v' → v' < v → lev t n v' = some k → k + 1 ≤ M) →
    am_Rn L xs d 89 18 [.ref 121, .int (nI j), .int (nI n), .int (nI M), .int (nI v), x, y] [] (mk s) Q = Q (some (.int (nI (H n)))) (mk s)
  | 0, v, M, hmm, hnv, hvt, h1M, hM, hall => by
    have h12 := hw.1
    have e : v = t.1 := by omega
    subst e
    have hMH : M = H n := by
      obtain ⟨v, g1, g2, g3⟩ := hP_att hH t.1 n (by omega) hn
      by_cases e : v = n
      · rw [e, lev_self] at g3
        have := Option.some.inj g3
        omega
      · have := hall v _ (by omega) g2 g3
        omega
    have h2 : am_in (nI j) 4 = true := in_of (by omega) (by decide)
    have h3 : (nI j).toNatClampNeg = j := nI_clamp (by omega)
    have h4 : nI t.1 ≤ nI t.1 := nI_le (Nat.le_refl _) (by omega)
    rw [hMH, r89_18]
    simp only [r89_20, r89_21, r89_24, r89_25, r89_26, r89_87, r89_88, am_li0, am_liS, am_laR0, g121_0, a122, h2, h3, hm.1, h4, if_true, true_and]
  | m + 1, v, M, hmm, hnv, hvt, h1M, hM, hall => by
    have h12 := hw.1
    have hHn := hH.2.2.2 n hn
    have h2 : am_in (nI j) 4 = true := in_of (by omega) (by decide)
    have h3 : (nI j).toNatClampNeg = j := nI_clamp (by omega)
    have h4 : ¬ nI t.1 ≤ nI v := nI_ge (by omega) (by omega)
    obtain ⟨v', far', g1, g2, g3, g4, g5⟩ := m_climb (L := L) (xs := xs) (d := d) h hm hw (n := n) (by omega) (w := nI M) (x := nI v) v 1 (by omega) (by omega)
    have g5 : ∀ Q : Option Value → am_S → Prop, am_Rn L xs d 89 36 [.ref 121, .int (nI j), .int (nI n), .int (nI M), .int (nI v), .int 1, .int (nI v)] [] (mk s) Q = am_Rn L xs d 89 62 [.ref 121, .int (nI j), .int (nI n), .int (nI M), .int (nI v), .int (nI far'), .int (nI v')] [] (mk s) Q := g5
    rw [r89_18]
    simp only [r89_20, r89_21, r89_24, r89_25, r89_26, r89_29, r89_30, r89_32, r89_34, am_li0, am_liS, am_laR0, g121_0, a122, h2, h3, hm.1, h4, g5, if_false, List.length_cons, List.length_nil, List.set_cons_succ, List.set_cons_zero, Nat.reduceAdd, Nat.reduceLT, true_and]
    by_cases e : v' = n
    · obtain ⟨q1, q2⟩ := g3 e
      subst e
      have hk := hP_lev hH v _ (by omega) q1
      have hv1 := hH.1 v
      by_cases e2 : far' ≤ M
      · have h5 : nI far' ≤ nI M := nI_le e2 (by omega)
        have ih := m_height_loop (x := .int (nI far')) (y := .int (nI v')) h hm hw hH hn trivial m (v + 1) M (by omega) (by omega) (by omega) h1M hM (fun a k b1 b2 b3 => by
          by_cases e3 : a = v
          · rw [e3, q1] at b3
            have := Option.some.inj b3
            omega
          · exact hall a k b1 (by omega) b3)
        simp only [r89_62, r89_64, r89_65, r89_68, r89_70, r89_71, r89_74, r89_76, r89_79, r89_80, r89_81, r89_84, am_li0, am_liS, h5, not_true, if_true, if_false, nI_1, List.length_cons, List.length_nil, List.set_cons_succ, List.set_cons_zero, Nat.reduceAdd, Nat.reduceLT, true_and]
        exact ih
      · have h5 : ¬ nI far' ≤ nI M := nI_ge (by omega) (by omega)
        have ih := m_height_loop (x := .int (nI far')) (y := .int (nI v')) h hm hw hH hn trivial m (v + 1) far' (by omega) (by omega) (by omega) (by omega) (by omega) (fun a k b1 b2 b3 => by
          by_cases e3 : a = v
          · rw [e3, q1] at b3
            have := Option.some.inj b3
            omega
          · have := hall a k b1 (by omega) b3
            omega)
        simp only [r89_62, r89_64, r89_65, r89_68, r89_70, r89_71, r89_74, r89_76, r89_79, r89_80, r89_81, r89_84, am_li0, am_liS, h5, not_true, if_false, nI_1, List.length_cons, List.length_nil, List.set_cons_succ, List.set_cons_zero, Nat.reduceAdd, Nat.reduceLT, true_and]
        exact ih
    · have q1 := g4 e
      have h5 : ¬ nI v' = nI n := fun q => e ((nI_eq (by omega) (by omega)).mp q)
      have ih := m_height_loop (x := .int (nI far')) (y := .int (nI v')) h hm hw hH hn trivial m (v + 1) M (by omega) (by omega) (by omega) h1M hM (fun a k b1 b2 b3 => by
          by_cases e3 : a = v
          · rw [e3, q1] at b3; cases b3
          · exact hall a k b1 (by omega) b3)
      simp only [r89_62, r89_64, r89_65, r89_68, r89_70, r89_71, r89_74, r89_76, r89_79, r89_80, r89_81, r89_84, am_li0, am_liS, h5, not_false_eq_true, if_true, nI_1, List.length_cons, List.length_nil, List.set_cons_succ, List.set_cons_zero, Nat.reduceAdd, Nat.reduceLT, true_and]
      exact ih
theorem m_height1 {j : Nat} {t : Tr} {H : Nat → Nat} (h : j < 3) (hm : mT s j t) (hw : tW t) (hH : hP t H) {n : Nat} (hn : n < t.1) : am_Call L xs (d + 2) 89 [.ref 121, .int (nI j), .int (nI n)] (mk s) Q = Q (some (.int (nI (H n)))) (mk s) := by
  have h1 : ¬ (1 : Int32) = 0 := by decide
  have hl := m_height_loop (L := L) (xs := xs) (d := d + 2) (Q := Q) h hm hw hH hn (x := .retAddr 0) (y := .retAddr 0) trivial (t.1 - (n + 1)) (n + 1) 1 rfl (by omega) (by omega) (Nat.le_refl _) (hH.1 n) (fun a k b1 b2 => by omega)
  have hl : am_Rn L xs (d + 2) 89 18 [.ref 121, .int (nI j), .int (nI n), .int 1, .int (nI (n + 1)), .retAddr 0, .retAddr 0] [] (mk s) Q = Q (some (.int (nI (H n)))) (mk s) := hl
  simp only [e89, r89_0, r89_1, r89_2, r89_3, r89_6, r89_9, r89_10, r89_11, r89_12, r89_13, r89_14, r89_15, r89_16, am_li0, am_liS, am_laR0, m_oc, m_isNodeT h hm.1 hw.1 ⟨n, hn, rfl⟩, am_tL, h1, not_false_eq_true, if_true, nI_1, am_okI, List.length_cons, List.length_nil, List.set_cons_succ, List.set_cons_zero, Nat.reduceAdd, Nat.reduceLT, Nat.zero_le, and_true, true_and]
  exact hl
theorem m_height2 {j : Nat} {t : Tr} (h : j < 3) (hm : mT s j t) (hw : tW t) {b : Int32} (hb : ¬ ∃ i, i < t.1 ∧ b = nI i) : am_Call L xs (d + 2) 89 [.ref 121, .int (nI j), .int b] (mk s) Q = Q (some (.int (-1))) (mk s) := by
  simp only [e89, r89_0, r89_1, r89_2, r89_3, r89_6, r89_9, r89_10, am_li0, am_liS, am_laR0, m_oc, m_isNodeF h hm.1 hw.1 hb, am_tL, not_true, if_false, am_okI, List.length_nil, Nat.zero_le, and_true, true_and]
theorem c_height1 {j : Nat} {t : Tr} (h : j < 3) (hc : cT s (2 + 5 * j) t) (hw : tW t) {n : Nat} (hn : n < t.1) : ∃ H : Nat → Nat, hP t H ∧ ∀ Q : Option Value → am_S → Prop, am_Call L xs (d + 2) 17 [.ref 0, .int (nI j), .int (nI n)] (mk s) Q = Q (some (.int (nI (H n)))) (mk (va_up s.1 17 (nA H (s.1 17)), s.2)) := by
  have hF := isF_t h
  have h12 := hw.1
  obtain ⟨H, h1, h2⟩ := c_mh (L := L) (xs := xs) (d := d) hF hc hw (by omega) (q := 17) rfl (by omega) (by omega)
  refine ⟨H, h1, fun Q => ?_⟩
  have h3 : ¬ (1 : Int32) = 0 := by decide
  have h4 : am_in (nI n) 12 = true := in_of (by omega) (by decide)
  have h5 : (nI n).toNatClampNeg = n := nI_clamp (by omega)
  simp only [e17, r17_0, r17_1, r17_4, r17_7, r17_8, r17_11, r17_12, r17_13, r17_14, r17_17, r17_20, r17_21, r17_22, r17_23, r17_26, r17_27, r17_28, r17_29, r17_32, r17_35, r17_36, r17_39, r17_40, r17_41, am_li0, am_liS, am_laR0, c_isTree1 h, am_tL, am_tN, h3, h4, h5, not_false_eq_true, g0_0, g0_1, t_tree h, a17, f_oc hF, c_hasT hF hc hw ⟨n, hn, rfl⟩, h2, up_same, nA_at H (s.1 17) (show n < 12 by omega), if_true, if_false, am_okI, am_okR, List.length_cons, List.length_nil, Nat.reduceAdd, Nat.reduceLeDiff, Nat.zero_le, and_true, true_and]
theorem c_height2 {j : Nat} {t : Tr} (h : j < 3) (hc : cT s (2 + 5 * j) t) (hw : tW t) {b : Int32} (hb : ¬ ∃ i, i < t.1 ∧ b = nI i) : am_Call L xs (d + 2) 17 [.ref 0, .int (nI j), .int b] (mk s) Q = Q (some (.int (-1))) (mk s) := by
  have h1 : ¬ (1 : Int32) = 0 := by decide
  simp only [e17, r17_0, r17_1, r17_4, r17_7, r17_8, r17_11, r17_12, r17_13, r17_14, r17_17, r17_20, r17_21, am_li0, am_liS, am_laR0, c_isTree1 h, am_tL, h1, not_true, g0_0, t_tree h, f_oc (isF_t h), c_hasF (isF_t h) hc hw hb, if_false, am_okI, List.length_nil, Nat.zero_le, and_true, true_and]
end
