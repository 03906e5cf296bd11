/-! The likeliest partner, the reference's side -/
section
variable {L : Nat} {xs : Nat → Int32} {d : Nat} {s : St}
theorem m_lk_loop {j j' : Nat} {t w : Tr} {H : Nat → Nat} {M : Pr} (hQ : mQ s j j' t w H M) {x : Nat} (hx : x < t.1) {Q : Option Value → am_S → Prop} : ∀ (m y : Nat) (A : Lk) (v6 v7 : Value), w.1 - y = m → y ≤ w.1 → lkW w A →
    am_Rn L xs (d + 1) 102 10 [.ref 121, .int (nI x), .int (oI A.1), .int (nI A.2.1), .int (nI A.2.2), .int (nI y), v6, v7] [] (mk s) Q = Q (some (.int (oI (lkF t w M x m y A).1))) (mk s) := by
  obtain ⟨hL, -, hM, hp, hw, hw'⟩ := hQ
  have hL' := hL
  obtain ⟨h, h', m1, m2, q1, q2, hH, hI⟩ := hL
  have h12 := hw.1
  have h12' := hw'.1
  have h2 : am_in (nI j') 4 = true := in_of (by omega) (by decide)
  have h3 : (nI j').toNatClampNeg = j' := nI_clamp (by omega)
  have x1 : am_in (nI x) 12 = true := in_of (by omega) (by decide)
  have x2 : (nI x).toNatClampNeg = x := nI_clamp (by omega)
  have f1 : (12 : Int32) * nI j + nI x = nI (12 * j + x) := by
    show nI 12 * nI j + nI x = _
    rw [pk_mul, nI_add]
  have h6 : am_in (nI (12 * j + x)) 48 = true := in_of (by omega) (by decide)
  have h7 : (nI (12 * j + x)).toNatClampNeg = 12 * j + x := nI_clamp (by omega)
  have tx := (m1.2 x hx).2.1
  have mf : s.1 131 x = nI (cB t x 12) := (hI.2 x (by omega)).1
  have m1l : ¬ (0 : Int32) ≤ -1 := by decide
  intro m
  induction m with
  | zero =>
    intro y A v6 v7 hm hy hW
    have e : y = w.1 := by omega
    subst e
    have h1 : nI w.1 ≤ nI w.1 := nI_le (Nat.le_refl _) (by omega)
    rw [r102_10]
    simp only [r102_12, r102_13, r102_16, r102_17, r102_20, r102_21, r102_133, r102_134, am_li0, am_liS, am_laR0, g121_0, g121_17, a122, q2, h2, h3, m2.1, h1, if_true, true_and, lkF]
  | succ m ih =>
    intro y A v6 v7 hm hy hW
    have h1 : ¬ nI w.1 ≤ nI y := nI_ge (by omega) (by omega)
    have y1 : am_in (nI y) 12 = true := in_of (by omega) (by decide)
    have y2 : (nI y).toNatClampNeg = y := nI_clamp (by omega)
    have f2 : (12 : Int32) * nI j' + nI y = nI (12 * j' + y) := by
      show nI 12 * nI j' + nI y = _
      rw [pk_mul, nI_add]
    have h8 : am_in (nI (12 * j' + y)) 48 = true := in_of (by omega) (by decide)
    have h9 : (nI (12 * j' + y)).toNatClampNeg = 12 * j' + y := nI_clamp (by omega)
    have eo := (hM y (by omega)).2
    have ty := (m2.2 y (by omega)).2.1
    have mt : s.1 132 y = nI (cB w y 12) := (hI.2 y (by omega)).2.1
    have hW1 := lk1_W (M := M) (x := x) hw (show y < w.1 by omega) hW
    rw [lkF_s]
    cases hu : M.2 y with
    | some u =>
      have hu12 := (hp.2 y u hu).2
      rw [hu, oI_some] at eo
      have ne : (0 : Int32) ≤ nI u := Int32.not_lt.mp (nI_pos (by omega))
      have e : lk1 t w M x A y = A := lk1_n (fun q => by have := q.1; rw [hu] at this; cases this)
      rw [e]
      have ih := ih (y + 1) A v6 v7 (by omega) (by omega) hW
      rw [← ih, r102_10]
      simp only [r102_12, r102_13, r102_16, r102_17, r102_20, r102_21, r102_24, r102_25, r102_28, r102_30, r102_31, r102_127, r102_130, am_li0, am_liS, am_laR0, g121_0, g121_5, g121_17, a122, a127, q2, h2, h3, m2.1, h1, y1, y2, eo, ne, nI_1, if_true, if_false, List.set_cons_succ, List.set_cons_zero, true_and]
    | none =>
      rw [hu, oI_none] at eo
      by_cases ht : t.2.2.1 x = w.2.2.1 y
      · have hs := fun Q => m_share (L := L) (xs := xs) (d := d) (Q := Q) hL' hw hw' hM hp hx (show y < w.1 by omega)
        have ty' : s.1 124 (12 * j' + y) = t.2.2.1 x := ty.trans ht.symm
        obtain ⟨S, eS⟩ : ∃ S, sh t w M.1 x y t.1 = S := ⟨_, rfl⟩
        have hS := sh_le t w M.1 x y t.1
        have b1 := cB_le t x 12
        have b2 := cB_le w y 12
        have eB : nI (cB t x 12) + nI (cB w y 12) = nI (lkB t w x y) := nI_add _ _
        have hBb : lkB t w x y ≤ 24 := by unfold lkB; omega
        obtain ⟨o, A1, A2⟩ := A
        have hW' := hW
        obtain ⟨w1, w2, w3⟩ := hW
        dsimp only at w1 w2
        have l1 : A1 * lkB t w x y ≤ 12 * 24 := Nat.mul_le_mul w1 hBb
        have l2 : S * A2 ≤ 12 * 24 := Nat.mul_le_mul (by omega) w2
        have e4 : (4 : Int32) * nI S = nI (4 * S) := pk_mul 4 S
        have e5 : nI S * nI A2 = nI (S * A2) := pk_mul _ _
        have e6 : nI A1 * nI (lkB t w x y) = nI (A1 * lkB t w x y) := pk_mul _ _
        by_cases z1 : 1 ≤ S
        · have r1 : ¬ nI S ≤ 0 := nI_nle (by omega) (by omega)
          by_cases z2 : lkB t w x y ≤ 4 * S
          · have r2 : ¬ nI (4 * S) < nI (lkB t w x y) := nI_nlt z2 (by omega)
            by_cases z3 : A1 * lkB t w x y < S * A2
            · have r3 : ¬ nI (S * A2) ≤ nI (A1 * lkB t w x y) := nI_ge z3 (by omega)
              have e : lk1 t w M x (o, A1, A2) y = (some y, S, lkB t w x y) := by
                have := lk1_y (t := t) (w := w) (M := M) (x := x) (A := (o, A1, A2)) (y := y) ⟨hu, ht, by rw [eS]; exact z1, by rw [eS]; exact z2, by rw [eS]; exact z3⟩
                rw [this, eS]
              rw [e] at hW1 ⊢
              have ih := ih (y + 1) (some y, S, lkB t w x y) (.int (nI S)) (.int (nI (lkB t w x y))) (by omega) (by omega) hW1
              dsimp only at ih ⊢
              rw [oI_some] at ih
              rw [← ih, r102_10]
              simp only [r102_12, r102_13, r102_16, r102_17, r102_20, r102_21, r102_24, r102_25, r102_28, r102_30, r102_31, r102_34, r102_35, r102_38, r102_40, r102_41, r102_44, r102_45, r102_47, r102_48, r102_49, r102_50, r102_53, r102_55, r102_56, r102_59, r102_60, r102_61, r102_62, r102_63, r102_66, r102_67, r102_68, r102_70, r102_73, r102_75, r102_76, r102_79, r102_80, r102_81, r102_82, r102_85, r102_87, r102_88, r102_89, r102_91, r102_93, r102_96, r102_97, r102_99, r102_100, r102_102, r102_105, r102_107, r102_109, r102_110, r102_111, r102_113, r102_114, r102_117, r102_119, r102_120, r102_122, r102_123, r102_125, r102_127, r102_130, am_li0, am_liS, am_laR0, m_oc, g121_0, g121_2, g121_5, g121_9, g121_10, g121_16, g121_17, a122, a124, a127, a131, a132, q1, q2, h2, h3, h6, h7, h8, h9, f1, f2, m2.1, h1, x1, x2, y1, y2, eo, m1l, tx, ty', hs, eS, mf, mt, eB, e4, e5, e6, r1, r2, r3, nI_1, am_tL, am_okI, not_true, if_true, if_false, List.length_cons, List.length_nil, List.set_cons_succ, List.set_cons_zero, Nat.reduceAdd, Nat.reduceLT, Nat.reduceLeDiff, Nat.zero_le, and_true, true_and]
            · have r3 : nI (S * A2) ≤ nI (A1 * lkB t w x y) := nI_le (by omega) (by omega)
              have e : lk1 t w M x (o, A1, A2) y = (o, A1, A2) := lk1_n (fun q => z3 (by have := q.2.2.2.2; rw [eS] at this; exact this))
              rw [e]
              have ih := ih (y + 1) (o, A1, A2) (.int (nI S)) (.int (nI (lkB t w x y))) (by omega) (by omega) hW'
              dsimp only at ih ⊢
              rw [← ih, r102_10]
              simp only [r102_12, r102_13, r102_16, r102_17, r102_20, r102_21, r102_24, r102_25, r102_28, r102_30, r102_31, r102_34, r102_35, r102_38, r102_40, r102_41, r102_44, r102_45, r102_47, r102_48, r102_49, r102_50, r102_53, r102_55, r102_56, r102_59, r102_60, r102_61, r102_62, r102_63, r102_66, r102_67, r102_68, r102_70, r102_73, r102_75, r102_76, r102_79, r102_80, r102_81, r102_82, r102_85, r102_87, r102_88, r102_89, r102_91, r102_93, r102_96, r102_97, r102_99, r102_100, r102_102, r102_105, r102_107, r102_109, r102_110, r102_111, r102_113, r102_114, r102_127, r102_130, am_li0, am_liS, am_laR0, m_oc, g121_0, g121_2, g121_5, g121_9, g121_10, g121_16, g121_17, a122, a124, a127, a131, a132, q1, q2, h2, h3, h6, h7, h8, h9, f1, f2, m2.1, h1, x1, x2, y1, y2, eo, m1l, tx, ty', hs, eS, mf, mt, eB, e4, e5, e6, r1, r2, r3, nI_1, am_tL, am_okI, not_true, if_true, if_false, List.length_cons, List.length_nil, List.set_cons_succ, List.set_cons_zero, Nat.reduceAdd, Nat.reduceLT, Nat.reduceLeDiff, Nat.zero_le, and_true, true_and]
          · have r2 : nI (4 * S) < nI (lkB t w x y) := nI_lt (by omega) (by omega)
            have e : lk1 t w M x (o, A1, A2) y = (o, A1, A2) := lk1_n (fun q => z2 (by have := q.2.2.2.1; rw [eS] at this; exact this))
            rw [e]
            have ih := ih (y + 1) (o, A1, A2) (.int (nI S)) (.int (nI (lkB t w x y))) (by omega) (by omega) hW'
            dsimp only at ih ⊢
            rw [← ih, r102_10]
            simp only [r102_12, r102_13, r102_16, r102_17, r102_20, r102_21, r102_24, r102_25, r102_28, r102_30, r102_31, r102_34, r102_35, r102_38, r102_40, r102_41, r102_44, r102_45, r102_47, r102_48, r102_49, r102_50, r102_53, r102_55, r102_56, r102_59, r102_60, r102_61, r102_62, r102_63, r102_66, r102_67, r102_68, r102_70, r102_73, r102_75, r102_76, r102_79, r102_80, r102_81, r102_82, r102_85, r102_87, r102_88, r102_89, r102_91, r102_93, r102_96, r102_97, r102_99, r102_100, r102_102, r102_127, r102_130, am_li0, am_liS, am_laR0, m_oc, g121_0, g121_2, g121_5, g121_9, g121_10, g121_16, g121_17, a122, a124, a127, a131, a132, q1, q2, h2, h3, h6, h7, h8, h9, f1, f2, m2.1, h1, x1, x2, y1, y2, eo, m1l, tx, ty', hs, eS, mf, mt, eB, e4, r1, r2, nI_1, am_tL, am_okI, not_true, if_true, if_false, List.length_cons, List.length_nil, List.set_cons_succ, List.set_cons_zero, Nat.reduceAdd, Nat.reduceLT, Nat.reduceLeDiff, Nat.zero_le, and_true, true_and]
        · have r1 : nI S ≤ 0 := nI_le (b := 0) (by omega) (by decide)
          have e : lk1 t w M x (o, A1, A2) y = (o, A1, A2) := lk1_n (fun q => z1 (by have := q.2.2.1; rw [eS] at this; exact this))
          rw [e]
          have ih := ih (y + 1) (o, A1, A2) (.int (nI S)) (.int (nI (lkB t w x y))) (by omega) (by omega) hW'
          dsimp only at ih ⊢
          rw [← ih, r102_10]
          simp only [r102_12, r102_13, r102_16, r102_17, r102_20, r102_21, r102_24, r102_25, r102_28, r102_30, r102_31, r102_34, r102_35, r102_38, r102_40, r102_41, r102_44, r102_45, r102_47, r102_48, r102_49, r102_50, r102_53, r102_55, r102_56, r102_59, r102_60, r102_61, r102_62, r102_63, r102_66, r102_67, r102_68, r102_70, r102_73, r102_75, r102_76, r102_79, r102_80, r102_81, r102_82, r102_85, r102_87, r102_88, r102_89, r102_91, r102_93, r102_127, r102_130, am_li0, am_liS, am_laR0, m_oc, g121_0, g121_2, g121_5, g121_9, g121_10, g121_16, g121_17, a122, a124, a127, a131, a132, q1, q2, h2, h3, h6, h7, h8, h9, f1, f2, m2.1, h1, x1, x2, y1, y2, eo, m1l, tx, ty', hs, eS, mf, mt, eB, r1, nI_1, am_tL, am_okI, not_true, if_true, if_false, List.length_cons, List.length_nil, List.set_cons_succ, List.set_cons_zero, Nat.reduceAdd, Nat.reduceLT, Nat.reduceLeDiff, Nat.zero_le, and_true, true_and]
      · have e : lk1 t w M x A y = A := lk1_n (fun q => ht q.2.1)
        have ht' : ¬ w.2.2.1 y = t.2.2.1 x := fun q => ht q.symm
        rw [e]
        have ih := ih (y + 1) A v6 v7 (by omega) (by omega) hW
        rw [← ih, r102_10]
        simp only [r102_12, r102_13, r102_16, r102_17, r102_20, r102_21, r102_24, r102_25, r102_28, r102_30, r102_31, r102_34, r102_35, r102_38, r102_40, r102_41, r102_44, r102_45, r102_47, r102_48, r102_49, r102_50, r102_53, r102_55, r102_56, r102_59, r102_60, r102_61, r102_62, r102_63, r102_127, r102_130, am_li0, am_liS, am_laR0, g121_0, g121_2, g121_5, g121_16, g121_17, a122, a124, a127, q1, q2, h2, h3, h6, h7, h8, h9, f1, f2, m2.1, h1, y1, y2, eo, m1l, tx, ty, ht', nI_1, not_false_eq_true, if_true, if_false, List.set_cons_succ, List.set_cons_zero, true_and]
theorem m_likely {j j' : Nat} {t w : Tr} {H : Nat → Nat} {M : Pr} (hQ : mQ s j j' t w H M) {x : Nat} (hx : x < t.1) {Q : Option Value → am_S → Prop} : am_Call L xs (d + 1) 102 [.ref 121, .int (nI x)] (mk s) Q = Q (some (.int (oI (lkA t w M x)))) (mk s) := by
  have hl := m_lk_loop (L := L) (xs := xs) (d := d) hQ hx (Q := Q) w.1 0 (none, 0, 1) (.retAddr 0) (.retAddr 0) (by omega) (by omega) ⟨by decide, by decide, fun y hy => by cases hy⟩
  have hl : am_Rn L xs (d + 1) 102 10 [.ref 121, .int (nI x), .int (-1), .int 0, .int 1, .int 0, .retAddr 0, .retAddr 0] [] (mk s) Q = Q (some (.int (oI (lkA t w M x)))) (mk s) := hl
  simp only [e102, r102_0, r102_1, r102_2, r102_3, r102_4, r102_5, r102_7, r102_8, List.length_cons, List.length_nil, List.set_cons_succ, List.set_cons_zero, Nat.reduceAdd, Nat.reduceLT, true_and]
  exact hl
end
