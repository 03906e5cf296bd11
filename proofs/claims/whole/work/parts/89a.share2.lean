/-! Joining by share, and the roots, on both sides -/
def pL (t w : Tr) (x : Nat) (M : Pr) : Option Nat → Pr
  | none => M
  | some y => prA t w x y (pJ M x y)
def jbS (t w : Tr) (x : Nat) (M : Pr) : Pr := if M.1 x = none then pL t w x M (lkA t w M x) else M
def jbF (t w : Tr) : Nat → Pr → Pr
  | 0, M => M
  | m + 1, M => jbF t w m (jbS t w m M)
theorem jbF_s (t w : Tr) (m : Nat) (M : Pr) : jbF t w (m + 1) M = jbF t w m (jbS t w m M) := rfl
def jrA (t w : Tr) (M : Pr) : Pr := if M.1 0 = none ∧ M.2 0 = none ∧ t.2.2.1 0 = w.2.2.1 0 then prA t w 0 0 (pJ M 0 0) else M
theorem lkA_lt {t w : Tr} {M : Pr} {x y : Nat} (hw : tW t) (h : lkA t w M x = some y) : y < w.1 :=
  (lkF_W (M := M) (x := x) hw w.1 0 (none, 0, 1) (by omega) ⟨by decide, by decide, fun y hy => by cases hy⟩).2.2 y h
section
variable {L : Nat} {xs : Nat → Int32} {d : Nat}
theorem c_jb_loop {P a b : Nat} {t w : Tr} {H : Nat → Nat} : ∀ (m : Nat) (s : St) (M : Pr) (v2 : Value), m ≤ t.1 → cQ s P a b t w H M →
    ∃ s' : St, cQ s' P a b t w H (jbF t w m M) ∧ frJ P s s' ∧ ∀ Q : Option Value → am_S → Prop, am_Rn L xs (d + 3) 34 10 [.ref P, .int (nI m - 1), v2] [] (mk s) Q = Q none (mk s')
  | 0, s, M, v2, hm, hQ => by
    refine ⟨s, hQ, frJ_refl P s, fun Q => ?_⟩
    have e0 : nI 0 - 1 = -1 := by decide
    have m1l : (-1 : Int32) < 0 := by decide
    rw [e0, r34_10]
    simp only [r34_11, r34_57, am_li0, am_liS, m1l, if_true]
  | m + 1, s, M, v2, hm, hQ => by
    have hP := hQ.2.1.1
    have hM := hQ.2.2.2.1
    have hp := hQ.2.2.2.2.1
    have hw := hQ.2.2.2.2.2.1
    have hw' := hQ.2.2.2.2.2.2
    have h12 := hw.1
    have h12' := hw'.1
    have h0 : ¬ nI m < 0 := nI_pos (by omega)
    have k1 : am_in (nI m) 12 = true := in_of (by omega) (by decide)
    have k2 : (nI m).toNatClampNeg = m := nI_clamp (by omega)
    have em := (hM m (by omega)).1
    rw [jbF_s]
    cases hu : M.1 m with
    | some u =>
      have hu12 := (hp.1 m u hu).2
      have ne : ¬ nI u = -1 := nI_m1 u (by omega)
      rw [hu, oI_some] at em
      have e : jbS t w m M = M := if_neg (fun q => by rw [hu] at q; cases q)
      rw [e]
      obtain ⟨s', r1, r2, r3⟩ := c_jb_loop m s M (.int (-1)) (by omega) hQ
      refine ⟨s', r1, r2, fun Q => ?_⟩
      rw [← r3 Q, nI_pred, r34_10]
      simp only [r34_11, r34_14, r34_15, r34_18, r34_19, r34_20, r34_21, r34_32, r34_33, r34_34, r34_35, r34_36, r34_51, r34_54, am_li0, am_liS, am_laR0, p_0 hP, p_a1 hP, h0, k1, k2, em, ne, ad_m1, not_false_eq_true, if_true, if_false, List.length_cons, List.length_nil, List.set_cons_succ, List.set_cons_zero, Nat.reduceAdd, Nat.reduceLT, true_and]
    | none =>
      rw [hu, oI_none] at em
      have e : jbS t w m M = pL t w m M (lkA t w M m) := if_pos hu
      have hl := fun Q => c_likely (L := L) (xs := xs) (d := d + 1) hQ (show m < t.1 by omega) (Q := Q)
      rw [e]
      cases hv : lkA t w M m with
      | none =>
        rw [hv, oI_none] at hl
        obtain ⟨s', r1, r2, r3⟩ := c_jb_loop m s M (.int (-1)) (by omega) hQ
        refine ⟨s', r1, r2, fun Q => ?_⟩
        rw [← r3 Q, nI_pred, r34_10]
        simp only [r34_11, r34_14, r34_15, r34_18, r34_19, r34_20, r34_21, r34_24, r34_25, r34_26, r34_29, r34_33, r34_34, r34_35, r34_36, r34_51, r34_54, am_li0, am_liS, am_laR0, p_oc hP, p_0 hP, p_a1 hP, h0, k1, k2, em, hl, ad_m1, am_tL, am_okI, not_true, if_true, if_false, List.length_cons, List.length_nil, List.set_cons_succ, List.set_cons_zero, Nat.reduceAdd, Nat.reduceLT, Nat.zero_le, and_true, true_and]
      | some y =>
        rw [hv, oI_some] at hl
        have hy := lkA_lt hw hv
        have ne : ¬ nI y = -1 := nI_m1 y (by omega)
        have hj := fun Q => c_join (L := L) (xs := xs) (d := d + 2) (s := s) (Q := Q) hP (show m < 12 by omega) (show y < 12 by omega)
        obtain ⟨s1, u1, u2, u3⟩ := c_pair (L := L) (xs := xs) (d := d) (cQ_J hQ (show m < t.1 by omega) hy) (show m < t.1 by omega) hy
        obtain ⟨s', r1, r2, r3⟩ := c_jb_loop m s1 _ (.int (nI y)) (by omega) u1
        refine ⟨s', r1, frJ_trans (frJ_J _ _ _ _) (frJ_trans u2 r2), fun Q => ?_⟩
        rw [← r3 Q, nI_pred, r34_10]
        simp only [r34_11, r34_14, r34_15, r34_18, r34_19, r34_20, r34_21, r34_24, r34_25, r34_26, r34_29, r34_33, r34_34, r34_35, r34_36, r34_39, r34_40, r34_41, r34_42, r34_45, r34_46, r34_47, r34_48, r34_51, r34_54, am_li0, am_liS, am_laR0, p_oc hP, p_0 hP, p_a1 hP, h0, k1, k2, em, hl, hj, u3, ne, ad_m1, am_tL, am_tN, am_okI, not_true, if_true, if_false, List.length_cons, List.length_nil, List.set_cons_succ, List.set_cons_zero, Nat.reduceAdd, Nat.reduceLT, Nat.zero_le, and_true, true_and]
theorem c_joinByShare {s : St} {P a b : Nat} {t w : Tr} {H : Nat → Nat} {M : Pr} (hQ : cQ s P a b t w H M) :
    ∃ s' : St, cQ s' P a b t w H (jbF t w t.1 M) ∧ frJ P s s' ∧ ∀ Q : Option Value → am_S → Prop, am_Call L xs (d + 3) 34 [.ref P] (mk s) Q = Q none (mk s') := by
  obtain ⟨s', r1, r2, r3⟩ := c_jb_loop (L := L) (xs := xs) (d := d) t.1 s M (.retAddr 0) (Nat.le_refl _) hQ
  refine ⟨s', r1, r2, fun Q => ?_⟩
  rw [← r3 Q]
  obtain ⟨⟨hP, hA, hB, g1, g2, c1, c2, -, -⟩, -⟩ := hQ
  simp only [e34, r34_0, r34_1, r34_4, r34_7, r34_8, r34_9, am_li0, am_liS, am_laR0, p_6 hP, g1, f_used hA, c1.1, List.length_cons, List.length_nil, List.set_cons_succ, List.set_cons_zero, Nat.reduceAdd, Nat.reduceLT, true_and]
theorem m_jb_loop {j j' : Nat} {t w : Tr} {H : Nat → Nat} {v1 : Value} : ∀ (m : Nat) (s : St) (M : Pr) (v3 : Value), m ≤ t.1 → mQ s j j' t w H M →
    ∃ (s' : St) (v2' v3' : Value), mQ s' j j' t w H (jbF t w m M) ∧ frW s s' ∧ ∀ Q : Option Value → am_S → Prop, am_Rn L xs (d + 2) 95 96 [.ref 121, v1, .int (nI m - 1), v3] [] (mk s) Q = am_Rn L xs (d + 2) 95 141 [.ref 121, v1, v2', v3'] [] (mk s') Q
  | 0, s, M, v3, hm, hQ => by
    refine ⟨s, .int (-1), v3, hQ, frW_refl s, fun Q => ?_⟩
    have e0 : nI 0 - 1 = -1 := by decide
    have m1l : (-1 : Int32) < 0 := by decide
    rw [e0, r95_96]
    simp only [r95_97, am_li0, am_liS, m1l, if_true]
  | m + 1, s, M, v3, hm, hQ => by
    have hM := hQ.2.2.1
    have hp := hQ.2.2.2.1
    have hw := hQ.2.2.2.2.1
    have hw' := hQ.2.2.2.2.2
    have h12 := hw.1
    have h12' := hw'.1
    have h0 : ¬ nI m < 0 := nI_pos (by omega)
    have k1 : am_in (nI m) 12 = true := in_of (by omega) (by decide)
    have k2 : (nI m).toNatClampNeg = m := nI_clamp (by omega)
    have em := (hM m (by omega)).1
    have m1l : ¬ (0 : Int32) ≤ -1 := by decide
    have m1n : (-1 : Int32) < 0 := by decide
    rw [jbF_s]
    cases hu : M.1 m with
    | some u =>
      have hu12 := (hp.1 m u hu).2
      have ne : (0 : Int32) ≤ nI u := Int32.not_lt.mp (nI_pos (by omega))
      rw [hu, oI_some] at em
      have e : jbS t w m M = M := if_neg (fun q => by rw [hu] at q; cases q)
      rw [e]
      obtain ⟨s', a2, a3, r1, r2, r3⟩ := m_jb_loop (v1 := v1) m s M (.int (-1)) (by omega) hQ
      refine ⟨s', a2, a3, r1, r2, fun Q => ?_⟩
      rw [← r3 Q, nI_pred, r95_96]
      simp only [r95_97, r95_100, r95_101, r95_104, r95_105, r95_106, r95_117, r95_118, r95_119, r95_120, r95_135, r95_138, am_li0, am_liS, am_laR0, g121_4, a126, h0, k1, k2, em, ne, m1n, ad_m1, if_true, if_false, List.length_cons, List.length_nil, List.set_cons_succ, List.set_cons_zero, Nat.reduceAdd, Nat.reduceLT, true_and]
    | none =>
      rw [hu, oI_none] at em
      have e : jbS t w m M = pL t w m M (lkA t w M m) := if_pos hu
      have hl := fun Q => m_likely (L := L) (xs := xs) (d := d) hQ (show m < t.1 by omega) (Q := Q)
      rw [e]
      cases hv : lkA t w M m with
      | none =>
        rw [hv, oI_none] at hl
        obtain ⟨s', a2, a3, r1, r2, r3⟩ := m_jb_loop (v1 := v1) m s M (.int (-1)) (by omega) hQ
        refine ⟨s', a2, a3, r1, r2, fun Q => ?_⟩
        rw [← r3 Q, nI_pred, r95_96]
        simp only [r95_97, r95_100, r95_101, r95_104, r95_105, r95_106, r95_109, r95_110, r95_111, r95_114, r95_118, r95_119, r95_120, r95_135, r95_138, am_li0, am_liS, am_laR0, m_oc, g121_4, a126, h0, k1, k2, em, hl, m1l, m1n, ad_m1, am_tL, am_okI, if_true, if_false, List.length_cons, List.length_nil, List.set_cons_succ, List.set_cons_zero, Nat.reduceAdd, Nat.reduceLT, Nat.zero_le, and_true, true_and]
      | some y =>
        rw [hv, oI_some] at hl
        have hy := lkA_lt hw hv
        have ne : ¬ nI y < 0 := nI_pos (by omega)
        have hj := fun Q => m_marry (L := L) (xs := xs) (d := d + 1) (s := s) (x := m) (y := y) (by omega) (by omega) (Q := Q)
        obtain ⟨s1, u1, u2, u3⟩ := m_paired (L := L) (xs := xs) (d := d) (mQ_J hQ (show m < t.1 by omega) hy) (show m < t.1 by omega) hy
        obtain ⟨s', a2, a3, r1, r2, r3⟩ := m_jb_loop (v1 := v1) m s1 _ (.int (nI y)) (by omega) u1
        refine ⟨s', a2, a3, r1, frW_trans (frW_J _ _ _) (frW_trans u2 r2), fun Q => ?_⟩
        rw [← r3 Q, nI_pred, r95_96]
        simp only [r95_97, r95_100, r95_101, r95_104, r95_105, r95_106, r95_109, r95_110, r95_111, r95_114, r95_118, r95_119, r95_120, r95_123, r95_124, r95_125, r95_126, r95_129, r95_130, r95_131, r95_132, r95_135, r95_138, am_li0, am_liS, am_laR0, m_oc, g121_4, a126, h0, k1, k2, em, hl, hj, u3, ne, m1l, ad_m1, am_tL, am_tN, am_okI, if_true, if_false, List.length_cons, List.length_nil, List.set_cons_succ, List.set_cons_zero, Nat.reduceAdd, Nat.reduceLT, Nat.zero_le, and_true, true_and]
end
