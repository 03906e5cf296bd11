/-! paired, whole -/
section
variable {L : Nat} {xs : Nat → Int32} {d : Nat}
theorem m_pk_row {j j' : Nat} {t w : Tr} {H : Nat → Nat} {b : Bool} {x y : Nat} (hx : x < t.1) (hy : y < w.1) : ∀ (m c : Nat) (s : St) (M : Pr) (v5 v6 v7 : Value), t.1 - c = m → c ≤ t.1 → mQ s j j' t w H M →
    ∃ (s' : St) (v4' v5' v6' v7' : Value), mQ s' j j' t w H (prF t w b x y m c M) ∧ frW s s' ∧ ∀ Q : Option Value → am_S → Prop, am_Rn L xs (d + 1) 103 12 [.ref 121, .int (nI x), .int (nI y), .int (bI (!b)), .int (nI c), v5, v6, v7] [] (mk s) Q = am_Rn L xs (d + 1) 103 218 [.ref 121, .int (nI x), .int (nI y), .int (bI (!b)), v4', v5', v6', v7'] [] (mk s') Q
  | 0, c, s, M, v5, v6, v7, hm, hc, hQ => by
    have q : c = t.1 := by omega
    subst q
    refine ⟨s, .int (nI t.1), v5, v6, v7, hQ, frW_refl s, fun Q => ?_⟩
    obtain ⟨⟨h, h', m1, m2, q1, q2, hH, hI⟩, -, hM, hp, hw, hw'⟩ := hQ
    have h12 := hw.1
    have h1 : nI t.1 ≤ nI t.1 := nI_le (Nat.le_refl _) (by omega)
    have h2 : am_in (nI j) 4 = true := in_of (by omega) (by decide)
    have h3 : (nI j).toNatClampNeg = j := nI_clamp (by omega)
    rw [r103_12]
    simp only [r103_14, r103_15, r103_18, r103_19, r103_22, r103_23, am_li0, am_liS, am_laR0, g121_0, g121_16, a122, q1, h2, h3, m1.1, h1, if_true, true_and]
  | m + 1, c, s, M, v5, v6, v7, hm, hc, hQ => by
    obtain ⟨s1, a5, a6, a7, r1, r2, r3⟩ := m_pk_in (L := L) (xs := xs) (d := d) (b := b) (x := x) (y := y) (show c < t.1 by omega) (w.1 - (y + 1)) (y + 1) s M v6 v7 rfl (by omega) hQ
    have ee : prE t w b x y c (w.1 - (y + 1)) (y + 1) M = prS t w b x y c M := rfl
    rw [ee] at r1
    obtain ⟨s2, v4', v5', v6', v7', u1, u2, u3⟩ := m_pk_row (b := b) hx hy m (c + 1) s1 _ a5 a6 a7 (by omega) (by omega) r1
    refine ⟨s2, v4', v5', v6', v7', u1, frW_trans r2 u2, fun Q => ?_⟩
    obtain ⟨⟨h, h', m1, m2, q1, q2, hH, hI⟩, -, hM, hp, hw, hw'⟩ := hQ
    have h12 := hw.1
    have h1 : ¬ nI t.1 ≤ nI c := nI_ge (by omega) (by omega)
    have h2 : am_in (nI j) 4 = true := in_of (by omega) (by decide)
    have h3 : (nI j).toNatClampNeg = j := nI_clamp (by omega)
    rw [← u3 Q, r103_12]
    simp only [r103_14, r103_15, r103_18, r103_19, r103_22, r103_23, r103_26, r103_27, r103_28, r103_29, am_li0, am_liS, am_laR0, g121_0, g121_16, a122, q1, h2, h3, m1.1, h1, nI_1, if_false, List.length_cons, List.length_nil, List.set_cons_succ, List.set_cons_zero, Nat.reduceAdd, Nat.reduceLT, true_and]
    rw [r3 Q]
    simp only [r103_212, r103_215, am_li0, am_liS, nI_1, List.set_cons_succ, List.set_cons_zero]
theorem m_paired {s : St} {j j' : Nat} {t w : Tr} {H : Nat → Nat} {M : Pr} (hQ : mQ s j j' t w H M) {x y : Nat} (hx : x < t.1) (hy : y < w.1) :
    ∃ s' : St, mQ s' j j' t w H (prA t w x y M) ∧ frW s s' ∧ ∀ Q : Option Value → am_S → Prop, am_Call L xs (d + 1) 103 [.ref 121, .int (nI x), .int (nI y)] (mk s) Q = Q none (mk s') := by
  obtain ⟨s1, a4, a5, a6, a7, r1, r2, r3⟩ := m_pk_row (L := L) (xs := xs) (d := d) (b := true) hx hy (t.1 - (x + 1)) (x + 1) s M (.retAddr 0) (.retAddr 0) (.retAddr 0) rfl (by omega) hQ
  obtain ⟨s2, c4, c5, c6, c7, u1, u2, u3⟩ := m_pk_row (L := L) (xs := xs) (d := d) (b := false) hx hy (t.1 - (x + 1)) (x + 1) s1 _ a5 a6 a7 rfl (by omega) r1
  refine ⟨s2, u1, frW_trans r2 u2, fun Q => ?_⟩
  have x0 : bI (!true) = 0 := rfl
  have x1 : bI (!false) = 1 := rfl
  have r3 := r3 Q
  have u3 := u3 Q
  rw [x0] at r3
  rw [x1] at u3
  have n0 : ¬ (2 : Int32) ≤ 0 := by decide
  have n1 : ¬ (2 : Int32) ≤ 1 := by decide
  have n2 : (2 : Int32) ≤ 2 := by decide
  have p1 : (0 : Int32) + 1 = 1 := by decide
  have p2 : (1 : Int32) + 1 = 2 := by decide
  have g1 : am_Rn L xs (d + 1) 103 2 [.ref 121, .int (nI x), .int (nI y), .int 0, .retAddr 0, .retAddr 0, .retAddr 0, .retAddr 0] [] (mk s) Q = am_Rn L xs (d + 1) 103 12 [.ref 121, .int (nI x), .int (nI y), .int 0, .int (nI (x + 1)), .retAddr 0, .retAddr 0, .retAddr 0] [] (mk s) Q := by
    rw [r103_2]
    simp only [r103_3, r103_4, r103_7, r103_8, r103_9, r103_10, am_li0, am_liS, n0, nI_1, if_false, List.length_cons, List.length_nil, List.set_cons_succ, List.set_cons_zero, Nat.reduceAdd, Nat.reduceLT, true_and]
  have g2 : am_Rn L xs (d + 1) 103 218 [.ref 121, .int (nI x), .int (nI y), .int 0, a4, a5, a6, a7] [] (mk s1) Q = am_Rn L xs (d + 1) 103 2 [.ref 121, .int (nI x), .int (nI y), .int 1, a4, a5, a6, a7] [] (mk s1) Q := by
    simp only [r103_218, r103_221, am_li0, am_liS, p1, List.set_cons_succ, List.set_cons_zero]
  have g3 : am_Rn L xs (d + 1) 103 2 [.ref 121, .int (nI x), .int (nI y), .int 1, a4, a5, a6, a7] [] (mk s1) Q = am_Rn L xs (d + 1) 103 12 [.ref 121, .int (nI x), .int (nI y), .int 1, .int (nI (x + 1)), a5, a6, a7] [] (mk s1) Q := by
    rw [r103_2]
    simp only [r103_3, r103_4, r103_7, r103_8, r103_9, r103_10, am_li0, am_liS, n1, nI_1, if_false, List.length_cons, List.length_nil, List.set_cons_succ, List.set_cons_zero, Nat.reduceAdd, Nat.reduceLT, true_and]
  have g4 : am_Rn L xs (d + 1) 103 218 [.ref 121, .int (nI x), .int (nI y), .int 1, c4, c5, c6, c7] [] (mk s2) Q = am_Rn L xs (d + 1) 103 2 [.ref 121, .int (nI x), .int (nI y), .int 2, c4, c5, c6, c7] [] (mk s2) Q := by
    simp only [r103_218, r103_221, am_li0, am_liS, p2, List.set_cons_succ, List.set_cons_zero]
  have g5 : am_Rn L xs (d + 1) 103 2 [.ref 121, .int (nI x), .int (nI y), .int 2, c4, c5, c6, c7] [] (mk s2) Q = Q none (mk s2) := by
    rw [r103_2]
    simp only [r103_3, r103_4, r103_224, am_li0, am_liS, n2, if_true]
  simp only [e103, r103_0, r103_1, List.length_cons, List.length_nil, List.set_cons_succ, List.set_cons_zero, Nat.reduceAdd, Nat.reduceLT, true_and]
  rw [g1, r3, g2, g3, u3, g4, g5]
end
