/-! The best pair, the reference's side -/
section
variable {L : Nat} {xs : Nat → Int32} {d : Nat} {s : St}
/-- the share of the parents, in best -/
theorem m_best_sh {j j' : Nat} {t w : Tr} {H : Nat → Nat} {M : Pr} (hQ : mQ s j j' t w H M) {x y : Nat} (hx : x < t.1) (hy : y < w.1) {v1 v2 v3 v5 v7 : Value} {Q : Option Value → am_S → Prop} :
    am_Rn L xs (d + 1) 98 97 [.ref 121, v1, v2, v3, .int (nI x), v5, .int (nI y), v7] [] (mk s) Q = am_Rn L xs (d + 1) 98 147 [.ref 121, v1, v2, v3, .int (nI x), v5, .int (nI y), .int (nI (shP t w M x y))] [] (mk s) Q := by
  obtain ⟨hL, hA, hM, hp, hw, hw'⟩ := hQ
  have h12 := hw.1
  have h12' := hw'.1
  have z : nI 0 = 0 := rfl
  by_cases hx0 : x = 0
  · have e : shP t w M x y = 0 := if_pos (Or.inl hx0)
    have e1 : nI x = 0 := by rw [hx0]; rfl
    rw [e, z]
    simp only [r98_97, r98_99, r98_107, r98_108, r98_145, am_li0, am_liS, e1, if_true, List.length_cons, List.length_nil, List.set_cons_succ, List.set_cons_zero, Nat.reduceAdd, Nat.reduceLT, true_and]
  · have e1 : ¬ nI x = 0 := nI_ne0 (by omega) (by omega)
    by_cases hy0 : y = 0
    · have e : shP t w M x y = 0 := if_pos (Or.inr hy0)
      have e2 : nI y = 0 := by rw [hy0]; rfl
      rw [e, z]
      simp only [r98_97, r98_99, r98_102, r98_104, r98_107, r98_108, r98_145, am_li0, am_liS, e1, e2, not_true, if_false, List.length_cons, List.length_nil, List.set_cons_succ, List.set_cons_zero, Nat.reduceAdd, Nat.reduceLT, true_and]
    · have e : shP t w M x y = sh t w M.1 (pm t x) (pm w y) t.1 := if_neg (by omega)
      have e2 : ¬ nI y = 0 := nI_ne0 (by omega) (by omega)
      have px := pm_lt t (show 0 < x by omega)
      have py := pm_lt w (show 0 < y by omega)
      have hsh := fun Q => m_share (L := L) (xs := xs) (d := d) (Q := Q) hL hw hw' hM hp (x := pm t x) (y := pm w y) (by omega) (by omega)
      obtain ⟨h, h', m1, m2, q1, q2, hH, hI⟩ := hL
      have f1 : (12 : Int32) * nI j + nI x = nI (12 * j + x) := by
        show nI 12 * nI j + nI x = _
        rw [pk_mul, nI_add]
      have f2 : (12 : Int32) * nI j' + nI y = nI (12 * j' + y) := by
        show nI 12 * nI j' + nI y = _
        rw [pk_mul, nI_add]
      have h6 : am_in (nI (12 * j + x)) 48 = true := in_of (by omega) (by decide)
      have h7 : (nI (12 * j + x)).toNatClampNeg = 12 * j + x := nI_clamp (by omega)
      have h8 : am_in (nI (12 * j' + y)) 48 = true := in_of (by omega) (by decide)
      have h9 : (nI (12 * j' + y)).toNatClampNeg = 12 * j' + y := nI_clamp (by omega)
      have p1 : s.1 123 (12 * j + x) = nI (pm t x) := (m1.2 x hx).1.trans (pm_eq hw (by omega) hx)
      have p2 : s.1 123 (12 * j' + y) = nI (pm w y) := (m2.2 y hy).1.trans (pm_eq hw' (by omega) hy)
      rw [e]
      simp only [r98_97, r98_99, r98_102, r98_104, r98_111, r98_112, r98_113, r98_116, r98_118, r98_119, r98_122, r98_123, r98_125, r98_126, r98_127, r98_128, r98_131, r98_133, r98_134, r98_137, r98_138, r98_140, r98_141, r98_142, r98_145, am_li0, am_liS, am_laR0, m_oc, g121_1, g121_16, g121_17, a123, q1, q2, f1, f2, h6, h7, h8, h9, p1, p2, hsh, e1, e2, am_tL, am_okI, not_false_eq_true, if_true, if_false, List.length_cons, List.length_nil, List.set_cons_succ, List.set_cons_zero, Nat.reduceAdd, Nat.reduceLT, Nat.zero_le, and_true, true_and]
theorem m_best_in {j j' : Nat} {t w : Tr} {H : Nat → Nat} {M : Pr} (hQ : mQ s j j' t w H M) {x : Nat} (hx : x < t.1) : ∀ (m y : Nat) (A : Bs) (v7 : Value), w.1 - y = m → y ≤ w.1 → bsW t w H M A →
    ∃ v6' v7' : Value, ∀ Q : Option Value → am_S → Prop, am_Rn L xs (d + 1) 98 35 [.ref 121, .int (bsB A), .int (nI (bsT A)), .int (nI (bsS A)), .int (nI x), .int (nI (H x)), .int (nI y), v7] [] (mk s) Q =
    am_Rn L xs (d + 1) 98 184 [.ref 121, .int (bsB (bsF t w H M x m y A)), .int (nI (bsT (bsF t w H M x m y A))), .int (nI (bsS (bsF t w H M x m y A))), .int (nI x), .int (nI (H x)), v6', v7'] [] (mk s) Q := by
  have hQ' := hQ
  obtain ⟨hL, hA, hM, hp, hw, hw'⟩ := hQ
  obtain ⟨h, h', m1, m2, q1, q2, hH, hI⟩ := hL
  have h12 := hw.1
  have h12' := hw'.1
  have hHx := hH.2.2.2 x hx
  have x1 : am_in (nI x) 12 = true := in_of (by omega) (by decide)
  have x2 : (nI x).toNatClampNeg = x := nI_clamp (by omega)
  have h2 : am_in (nI j') 4 = true := in_of (by omega) (by decide)
  have h3 : (nI j').toNatClampNeg = j' := nI_clamp (by omega)
  have n1 : ¬ (1 : Int32) = 0 := by decide
  have b0 : bI false = 0 := rfl
  have b1 : bI true = 1 := rfl
  have em := (hM x (by omega)).1
  have m1l : ¬ (0 : Int32) ≤ -1 := by decide
  have m1n : (-1 : Int32) < 0 := by decide
  intro m
  induction m with
  | zero =>
    intro y A v7 hm hy hA'
    have e : y = w.1 := by omega
    subst e
    have h1 : nI w.1 ≤ nI w.1 := nI_le (Nat.le_refl _) (by omega)
    refine ⟨.int (nI w.1), v7, fun Q => ?_⟩
    rw [r98_35]
    simp only [r98_37, r98_38, r98_41, r98_42, r98_45, r98_46, am_li0, am_liS, am_laR0, g121_0, g121_17, a122, q2, h2, h3, m2.1, h1, if_true, true_and, bsF]
  | succ m ih =>
    intro y A v7 hm hy hA'
    have h1 : ¬ nI w.1 ≤ nI y := nI_ge (by omega) (by omega)
    have hs12 := shP_le t w M x y
    have bA : bsT A ≤ 12 ∧ bsS A ≤ 12 := by
      cases A with
      | none => exact ⟨by decide, Nat.zero_le _⟩
      | some q => have := hA' q rfl; exact ⟨this.2.2.2.2.1, this.2.2.2.2.2.1⟩
    have bT : ∀ y, bsP t w H M A x y → bsT A ≤ H x := by
      intro y hb
      cases A with
      | none => exact Nat.le_trans (by decide) (frA_H hb.1).1
      | some q => exact hb.2.1
    by_cases hT : bsT A ≤ H x
    · have r1 : ¬ nI (H x) < nI (bsT A) := nI_nlt hT (by omega)
      by_cases h2x : 2 ≤ H x
      · have r2 : ¬ nI (H x) ≤ 1 := nI_ge (a := 1) (by omega) (by omega)
        cases hv : M.1 x with
        | some v =>
          have hv12 := (hp.1 x v hv).2
          have ne : (0 : Int32) ≤ nI v := Int32.not_lt.mp (nI_pos (by omega))
          rw [hv, oI_some] at em
          rw [bsF_n (fun y hb => by have := (frA_H hb.1).2.2.1; rw [hv] at this; cases this)]
          refine ⟨.int (nI y), v7, fun Q => ?_⟩
          rw [r98_35]
          simp only [r98_37, r98_38, r98_41, r98_42, r98_45, r98_46, r98_49, r98_51, r98_52, r98_55, r98_57, r98_58, r98_61, r98_62, r98_65, r98_67, r98_68, am_li0, am_liS, am_laR0, g121_0, g121_4, g121_17, a122, a126, q2, h2, h3, x1, x2, m2.1, h1, em, ne, r1, r2, if_true, if_false, true_and]
        | none =>
          rw [hv, oI_none] at em
          have y1 : am_in (nI y) 12 = true := in_of (by omega) (by decide)
          have y2 : (nI y).toNatClampNeg = y := nI_clamp (by omega)
          have eo := (hM y (by omega)).2
          have hW1 := bs1_W hw hH hx (show y < w.1 by omega) hA'
          rw [bsF_s]
          cases hu : M.2 y with
          | some u =>
            have hu12 := (hp.2 y u hu).2
            have ne : (0 : Int32) ≤ nI u := Int32.not_lt.mp (nI_pos (by omega))
            rw [hu, oI_some] at eo
            have e : bs1 t w H M A x y = A := bs1_n (fun hb => by have := (frA_H hb.1).2.2.2; rw [hu] at this; cases this)
            rw [e] at hW1 ⊢
            obtain ⟨v6', v7', hr⟩ := ih (y + 1) A v7 (by omega) (by omega) hW1
            refine ⟨v6', v7', fun Q => ?_⟩
            rw [← hr Q, r98_35]
            simp only [r98_37, r98_38, r98_41, r98_42, r98_45, r98_46, r98_49, r98_51, r98_52, r98_55, r98_57, r98_58, r98_61, r98_62, r98_65, r98_67, r98_68, r98_71, r98_72, r98_75, r98_77, r98_78, r98_178, r98_181, am_li0, am_liS, am_laR0, g121_0, g121_4, g121_5, g121_17, a122, a126, a127, q2, h2, h3, x1, x2, y1, y2, m2.1, h1, em, eo, ne, m1l, r1, r2, nI_1, if_true, if_false, List.set_cons_succ, List.set_cons_zero, true_and]
          | none =>
            rw [hu, oI_none] at eo
            have e12 : (12 : Int32) * nI x + nI y = nI (12 * x + y) := by
              show nI 12 * nI x + nI y = _
              rw [pk_mul, nI_add]
            have k1 : am_in (nI (12 * x + y)) 144 = true := in_of (by omega) (by decide)
            have k2 : (nI (12 * x + y)).toNatClampNeg = 12 * x + y := nI_clamp (by omega)
            have hS := hA x y hx (by omega)
            cases hb : alN t w x y with
            | false =>
              rw [hb, b0] at hS
              have e : bs1 t w H M A x y = A := bs1_n (fun q => by have := (frA_H q.1).2.1; rw [hb] at this; exact Bool.false_ne_true this)
              rw [e] at hW1 ⊢
              obtain ⟨v6', v7', hr⟩ := ih (y + 1) A v7 (by omega) (by omega) hW1
              refine ⟨v6', v7', fun Q => ?_⟩
              rw [← hr Q, r98_35]
              simp only [r98_37, r98_38, r98_41, r98_42, r98_45, r98_46, r98_49, r98_51, r98_52, r98_55, r98_57, r98_58, r98_61, r98_62, r98_65, r98_67, r98_68, r98_71, r98_72, r98_75, r98_77, r98_78, r98_81, r98_82, r98_85, r98_87, r98_89, r98_90, r98_92, r98_93, r98_94, r98_178, r98_181, am_li0, am_liS, am_laR0, g121_0, g121_4, g121_5, g121_6, g121_17, a122, a126, a127, a128, q2, h2, h3, x1, x2, y1, y2, k1, k2, e12, m2.1, h1, em, eo, hS, m1l, r1, r2, nI_1, if_true, if_false, List.set_cons_succ, List.set_cons_zero, true_and]
            | true =>
              rw [hb, b1] at hS
              have hf : frA t w H M x y = true := by
                unfold frA
                rw [hv, hu, hb, decide_eq_true h2x]; rfl
              have go : ∀ Q : Option Value → am_S → Prop, am_Rn L xs (d + 1) 98 35 [.ref 121, .int (bsB A), .int (nI (bsT A)), .int (nI (bsS A)), .int (nI x), .int (nI (H x)), .int (nI y), v7] [] (mk s) Q =
                  am_Rn L xs (d + 1) 98 147 [.ref 121, .int (bsB A), .int (nI (bsT A)), .int (nI (bsS A)), .int (nI x), .int (nI (H x)), .int (nI y), .int (nI (shP t w M x y))] [] (mk s) Q := by
                intro Q
                rw [← m_best_sh (v7 := v7) hQ' hx (show y < w.1 by omega), r98_35]
                simp only [r98_37, r98_38, r98_41, r98_42, r98_45, r98_46, r98_49, r98_51, r98_52, r98_55, r98_57, r98_58, r98_61, r98_62, r98_65, r98_67, r98_68, r98_71, r98_72, r98_75, r98_77, r98_78, r98_81, r98_82, r98_85, r98_87, r98_89, r98_90, r98_92, r98_93, r98_94, am_li0, am_liS, am_laR0, g121_0, g121_4, g121_5, g121_6, g121_17, a122, a126, a127, a128, q2, h2, h3, x1, x2, y1, y2, k1, k2, e12, m2.1, h1, em, eo, hS, n1, m1l, r1, r2, if_false, true_and]
              by_cases hb2 : bsP t w H M A x y
              · have e := bs1_y hb2
                rw [e] at hW1 ⊢
                obtain ⟨v6', v7', hr⟩ := ih (y + 1) _ (.int (nI (shP t w M x y))) (by omega) (by omega) hW1
                refine ⟨v6', v7', fun Q => ?_⟩
                rw [← hr Q, go Q, bsB_s, bsT_s, bsS_s]
                cases A with
                | none =>
                  have ea : bsB none = -1 := rfl
                  rw [ea]
                  simp only [r98_147, r98_148, r98_163, r98_165, r98_167, r98_168, r98_170, r98_171, r98_172, r98_174, r98_175, r98_177, r98_178, r98_181, am_li0, am_liS, m1n, e12, nI_1, if_true, List.length_cons, List.length_nil, List.set_cons_succ, List.set_cons_zero, Nat.reduceAdd, Nat.reduceLT, true_and]
                | some q =>
                  obtain ⟨x0, y0, h0, s0⟩ := q
                  have w0 := hA' _ rfl
                  dsimp only at w0
                  have ne : ¬ nI (12 * x0 + y0) < 0 := nI_pos (by omega)
                  rw [bsB_s, bsT_s, bsS_s]
                  rcases hb2 with ⟨-, z1, z2⟩
                  have z1 : h0 ≤ H x := z1
                  by_cases z3 : h0 < H x
                  · have z4 : nI h0 < nI (H x) := nI_lt z3 (by omega)
                    simp only [r98_147, r98_148, r98_151, r98_153, r98_154, r98_163, r98_165, r98_167, r98_168, r98_170, r98_171, r98_172, r98_174, r98_175, r98_177, r98_178, r98_181, am_li0, am_liS, ne, z4, e12, nI_1, if_true, if_false, List.length_cons, List.length_nil, List.set_cons_succ, List.set_cons_zero, Nat.reduceAdd, Nat.reduceLT, true_and]
                  · have z4 : ¬ nI h0 < nI (H x) := nI_nlt (by omega) (by omega)
                    have z5 : s0 < shP t w M x y := by
                      rcases z2 with z | z
                      · exact absurd z z3
                      · exact z
                    have z6 : ¬ nI (shP t w M x y) ≤ nI s0 := nI_ge z5 (by omega)
                    simp only [r98_147, r98_148, r98_151, r98_153, r98_154, r98_157, r98_159, r98_160, r98_163, r98_165, r98_167, r98_168, r98_170, r98_171, r98_172, r98_174, r98_175, r98_177, r98_178, r98_181, am_li0, am_liS, ne, z4, z6, e12, nI_1, if_true, if_false, List.length_cons, List.length_nil, List.set_cons_succ, List.set_cons_zero, Nat.reduceAdd, Nat.reduceLT, true_and]
              · have e := bs1_n hb2
                rw [e] at hW1 ⊢
                obtain ⟨v6', v7', hr⟩ := ih (y + 1) A (.int (nI (shP t w M x y))) (by omega) (by omega) hW1
                refine ⟨v6', v7', fun Q => ?_⟩
                rw [← hr Q, go Q]
                cases A with
                | none => exact absurd ⟨hf, Nat.zero_le _, Or.inl (show 0 < H x by omega)⟩ hb2
                | some q =>
                  obtain ⟨x0, y0, h0, s0⟩ := q
                  have w0 := hA' _ rfl
                  dsimp only at w0
                  have ne : ¬ nI (12 * x0 + y0) < 0 := nI_pos (by omega)
                  rw [bsB_s, bsT_s, bsS_s]
                  have hT : h0 ≤ H x := hT
                  have z3 : ¬ h0 < H x := fun z => hb2 ⟨hf, hT, Or.inl z⟩
                  have z5 : ¬ s0 < shP t w M x y := fun z => hb2 ⟨hf, hT, Or.inr z⟩
                  have z4 : ¬ nI h0 < nI (H x) := nI_nlt (by omega) (by omega)
                  have z6 : nI (shP t w M x y) ≤ nI s0 := nI_le (by omega) (by omega)
                  simp only [r98_147, r98_148, r98_151, r98_153, r98_154, r98_157, r98_159, r98_160, r98_178, r98_181, am_li0, am_liS, ne, z4, z6, nI_1, if_true, if_false, List.set_cons_succ, List.set_cons_zero]
      · have r2 : nI (H x) ≤ 1 := nI_le (b := 1) (by omega) (by decide)
        rw [bsF_n (fun y hb => h2x (frA_H hb.1).1)]
        refine ⟨.int (nI y), v7, fun Q => ?_⟩
        rw [r98_35]
        simp only [r98_37, r98_38, r98_41, r98_42, r98_45, r98_46, r98_49, r98_51, r98_52, r98_55, r98_57, r98_58, am_li0, am_liS, am_laR0, g121_0, g121_17, a122, q2, h2, h3, m2.1, h1, r1, r2, if_true, if_false, true_and]
    · have r1 : nI (H x) < nI (bsT A) := nI_lt (by omega) (by omega)
      rw [bsF_n (fun y hb => hT (bT y hb))]
      refine ⟨.int (nI y), v7, fun Q => ?_⟩
      rw [r98_35]
      simp only [r98_37, r98_38, r98_41, r98_42, r98_45, r98_46, r98_49, r98_51, r98_52, am_li0, am_liS, am_laR0, g121_0, g121_17, a122, q2, h2, h3, m2.1, h1, r1, if_true, if_false, true_and]
theorem m_best_out {j j' : Nat} {t w : Tr} {H : Nat → Nat} {M : Pr} (hQ : mQ s j j' t w H M) {Q : Option Value → am_S → Prop} : ∀ (m x : Nat) (A : Bs) (v5 v6 v7 : Value), t.1 - x = m → x ≤ t.1 → bsW t w H M A →
    am_Rn L xs (d + 1) 98 9 [.ref 121, .int (bsB A), .int (nI (bsT A)), .int (nI (bsS A)), .int (nI x), v5, v6, v7] [] (mk s) Q = Q (some (.int (bsB (bsG t w H M m x A)))) (mk s)
  | 0, x, A, v5, v6, v7, hm, hx, hW => by
    obtain ⟨⟨h, h', m1, m2, q1, q2, hH, hI⟩, hA, hM, hp, hw, hw'⟩ := hQ
    have h12 := hw.1
    have e : x = t.1 := by omega
    subst e
    have h1 : nI t.1 ≤ nI t.1 := nI_le (Nat.le_refl _) (by omega)
    have h2 : am_in (nI j) 4 = true := in_of (by omega) (by decide)
    have h3 : (nI j).toNatClampNeg = j := nI_clamp (by omega)
    rw [r98_9]
    simp only [r98_11, r98_12, r98_15, r98_16, r98_19, r98_20, r98_190, r98_191, am_li0, am_liS, am_laR0, g121_0, g121_16, a122, q1, h2, h3, m1.1, h1, if_true, true_and, bsG]
  | m + 1, x, A, v5, v6, v7, hm, hx, hW => by
    have hQ' := hQ
    obtain ⟨⟨h, h', m1, m2, q1, q2, hH, hI⟩, hA, hM, hp, hw, hw'⟩ := hQ
    have h12 := hw.1
    have h1 : ¬ nI t.1 ≤ nI x := nI_ge (by omega) (by omega)
    have h2 : am_in (nI j) 4 = true := in_of (by omega) (by decide)
    have h3 : (nI j).toNatClampNeg = j := nI_clamp (by omega)
    have x1 : am_in (nI x) 12 = true := in_of (by omega) (by decide)
    have x2 : (nI x).toNatClampNeg = x := nI_clamp (by omega)
    have et : s.1 133 x = nI (H x) := by
      rw [(hI.2 x (by omega)).2.2]
      unfold tal
      rw [if_pos (by omega)]
    obtain ⟨v6a, v7a, r1⟩ := m_best_in (L := L) (xs := xs) (d := d) hQ' (show x < t.1 by omega) w.1 0 A v7 (by omega) (by omega) hW
    have r1 : am_Rn L xs (d + 1) 98 35 [.ref 121, .int (bsB A), .int (nI (bsT A)), .int (nI (bsS A)), .int (nI x), .int (nI (H x)), .int 0, v7] [] (mk s) Q = _ := r1 Q
    have r2 := m_best_out hQ' (Q := Q) m (x + 1) (bsF t w H M x w.1 0 A) (.int (nI (H x))) v6a v7a (by omega) (by omega) (bsF_W hw hH (by omega) w.1 0 A (by omega) hW)
    rw [bsG_s, ← r2, r98_9]
    simp only [r98_11, r98_12, r98_15, r98_16, r98_19, r98_20, r98_23, r98_24, r98_27, r98_29, r98_30, r98_32, r98_33, am_li0, am_liS, am_laR0, g121_0, g121_11, g121_16, a122, a133, q1, h2, h3, x1, x2, m1.1, et, h1, if_false, List.length_cons, List.length_nil, List.set_cons_succ, List.set_cons_zero, Nat.reduceAdd, Nat.reduceLT, true_and]
    rw [r1]
    simp only [r98_184, r98_187, am_li0, am_liS, nI_1, List.set_cons_succ, List.set_cons_zero]
/-- the best pair of all -/
def bsA (t w : Tr) (H : Nat → Nat) (M : Pr) : Bs := bsG t w H M t.1 0 none
theorem bsA_W {t w : Tr} {H : Nat → Nat} {M : Pr} (hw : tW t) (hH : hP t H) : bsW t w H M (bsA t w H M) := bsG_W hw hH t.1 0 none (by omega) (fun q hq => by cases hq)
theorem m_best {j j' : Nat} {t w : Tr} {H : Nat → Nat} {M : Pr} (hQ : mQ s j j' t w H M) {Q : Option Value → am_S → Prop} : am_Call L xs (d + 1) 98 [.ref 121] (mk s) Q = Q (some (.int (bsB (bsA t w H M)))) (mk s) := by
  have hl := m_best_out (L := L) (xs := xs) (d := d) hQ (Q := Q) t.1 0 none (.retAddr 0) (.retAddr 0) (.retAddr 0) (by omega) (by omega) (fun q hq => by cases hq)
  have hl : am_Rn L xs (d + 1) 98 9 [.ref 121, .int (-1), .int 1, .int 0, .int 0, .retAddr 0, .retAddr 0, .retAddr 0] [] (mk s) Q = Q (some (.int (bsB (bsA t w H M)))) (mk s) := hl
  simp only [e98, r98_0, r98_1, r98_2, r98_3, r98_4, r98_5, r98_6, r98_7, List.length_cons, List.length_nil, List.set_cons_succ, List.set_cons_zero, Nat.reduceAdd, Nat.reduceLT, true_and]
  exact hl
end
