/-! Children are paired: the class's side -/
/-- e under y is free for c -/
def ffP (t w : Tr) (M : Pr) (b : Bool) (c y e : Nat) : Bool := (decide (w.2.1 e = nI y) && (M.2 e).isNone) && decide (w.2.2.1 e = t.2.2.1 c) && (!b || decide (w.2.2.2 e = t.2.2.2 c))
def ffF (t w : Tr) (M : Pr) (b : Bool) (c y : Nat) : Nat → Nat → Option Nat
  | 0, _ => none
  | m + 1, e => if ffP t w M b c y e = true then some e else ffF t w M b c y m (e + 1)
theorem ffF_s (t w : Tr) (M : Pr) (b : Bool) (c y m e : Nat) : ffF t w M b c y (m + 1) e = if ffP t w M b c y e = true then some e else ffF t w M b c y m (e + 1) := rfl
theorem ffF_lt {t w : Tr} {M : Pr} {b : Bool} {c y : Nat} : ∀ {m e v : Nat}, ffF t w M b c y m e = some v → e ≤ v ∧ v < e + m
  | 0, e, v, h => by cases h
  | m + 1, e, v, h => by
    rw [ffF_s] at h
    by_cases q : ffP t w M b c y e = true
    · rw [if_pos q] at h; cases h; exact ⟨Nat.le_refl _, by omega⟩
    · rw [if_neg q] at h
      have := ffF_lt h
      omega
/-- c gets a partner, if there is one -/
def pO (M : Pr) (c : Nat) : Option Nat → Pr
  | none => M
  | some e => pJ M c e
def prS (t w : Tr) (b : Bool) (x y c : Nat) (M : Pr) : Pr := if t.2.1 c = nI x ∧ M.1 c = none then pO M c (ffF t w M b c y (w.1 - (y + 1)) (y + 1)) else M
def prF (t w : Tr) (b : Bool) (x y : Nat) : Nat → Nat → Pr → Pr
  | 0, _, M => M
  | m + 1, c, M => prF t w b x y m (c + 1) (prS t w b x y c M)
theorem prF_s (t w : Tr) (b : Bool) (x y m c : Nat) (M : Pr) : prF t w b x y (m + 1) c M = prF t w b x y m (c + 1) (prS t w b x y c M) := rfl
section
variable {L : Nat} {xs : Nat → Int32} {d : Nat} {s : St}
theorem c_ff_loop {P a b' : Nat} {t w : Tr} {H : Nat → Nat} {M : Pr} (hQ : cQ s P a b' t w H M) {b : Bool} {c y : Nat} (hc : c < t.1) (hy : y < w.1) {Q : Option Value → am_S → Prop} : ∀ (m e : Nat) (v5 v6 v7 : Value), w.1 - e = m → e ≤ w.1 →
    am_Rn L xs d 39 5 [.ref P, .int (nI y), .int (nI c), .int (bI b), .int (nI e), v5, v6, v7] [] (mk s) Q = Q (some (.int (oI (ffF t w M b c y m e)))) (mk s) := by
  obtain ⟨hL, -, -, hM, hp, hw, hw'⟩ := hQ
  obtain ⟨hP, hA, hB, g1, g2, c1, c2, -, -⟩ := hL
  have h12 := hw.1
  have h12' := hw'.1
  have k1 : am_in (nI c) 12 = true := in_of (by omega) (by decide)
  have k2 : (nI c).toNatClampNeg = c := nI_clamp (by omega)
  have n1 : ¬ (1 : Int32) = 0 := by decide
  have b0 : bI false = 0 := rfl
  have b1 : bI true = 1 := rfl
  obtain ⟨-, -, tc, lc⟩ := c1.2.1 c hc
  intro m
  induction m with
  | zero =>
    intro e v5 v6 v7 hm he
    have q : e = w.1 := by omega
    subst q
    have h1 : nI w.1 ≤ nI w.1 := nI_le (Nat.le_refl _) (by omega)
    rw [r39_5]
    simp only [r39_7, r39_8, r39_11, r39_14, r39_135, r39_136, am_li0, am_liS, am_laR0, p_7 hP, g2, f_used hB, c2.1, h1, if_true, ffF, oI]
  | succ m ih =>
    intro e v5 v6 v7 hm he
    have h1 : ¬ nI w.1 ≤ nI e := nI_ge (by omega) (by omega)
    have e1 : am_in (nI e) 12 = true := in_of (by omega) (by decide)
    have e2 : (nI e).toNatClampNeg = e := nI_clamp (by omega)
    obtain ⟨pe, -, te, le⟩ := c2.2.1 e (by omega)
    have eo := (hM e (by omega)).2
    have sA : am_Rn L xs d 39 17 [.ref P, .int (nI y), .int (nI c), .int (bI b), .int (nI e), v5, v6, v7] [] (mk s) Q = am_Rn L xs d 39 49 [.ref P, .int (nI y), .int (nI c), .int (bI b), .int (nI e), .int (bI (decide (w.2.1 e = nI y) && (M.2 e).isNone)), v6, v7] [] (mk s) Q := by
      by_cases z : w.2.1 e = nI y
      · rw [decide_eq_true z, Bool.true_and]
        cases hu : M.2 e with
        | none =>
          rw [hu, oI_none] at eo
          simp only [r39_17, r39_18, r39_21, r39_24, r39_26, r39_27, r39_28, r39_31, r39_32, r39_35, r39_37, r39_38, r39_39, r39_42, r39_43, r39_47, am_li0, am_liS, am_laR0, p_1 hP, p_7 hP, p_a2 hP, g2, f_par hB, fa_par hB, e1, e2, pe, z, eo, Option.isNone_none, b1, not_true, if_false, List.length_cons, List.length_nil, List.set_cons_succ, List.set_cons_zero, Nat.reduceAdd, Nat.reduceLT, true_and]
        | some u =>
          have hu12 := (hp.2 e u hu).2
          have ne : ¬ nI u = -1 := nI_m1 u (by omega)
          rw [hu, oI_some] at eo
          simp only [r39_17, r39_18, r39_21, r39_24, r39_26, r39_27, r39_28, r39_31, r39_32, r39_35, r39_37, r39_38, r39_39, r39_46, r39_47, am_li0, am_liS, am_laR0, p_1 hP, p_7 hP, p_a2 hP, g2, f_par hB, fa_par hB, e1, e2, pe, z, eo, ne, Option.isNone_some, b0, not_true, not_false_eq_true, if_true, if_false, List.length_cons, List.length_nil, List.set_cons_succ, List.set_cons_zero, Nat.reduceAdd, Nat.reduceLT, true_and]
      · rw [decide_eq_false z, Bool.false_and, b0]
        simp only [r39_17, r39_18, r39_21, r39_24, r39_26, r39_27, r39_28, r39_46, r39_47, am_li0, am_liS, am_laR0, p_7 hP, g2, f_par hB, fa_par hB, e1, e2, pe, z, not_false_eq_true, if_true, List.length_cons, List.length_nil, List.set_cons_succ, List.set_cons_zero, Nat.reduceAdd, Nat.reduceLT, true_and]
    have sB : ∀ f : Int32, am_Rn L xs d 39 49 [.ref P, .int (nI y), .int (nI c), .int (bI b), .int (nI e), .int f, v6, v7] [] (mk s) Q = am_Rn L xs d 39 78 [.ref P, .int (nI y), .int (nI c), .int (bI b), .int (nI e), .int f, .int (bI (decide (w.2.2.1 e = t.2.2.1 c))), v7] [] (mk s) Q := by
      intro f
      by_cases z : w.2.2.1 e = t.2.2.1 c
      · rw [decide_eq_true z, b1]
        simp only [r39_49, r39_50, r39_53, r39_56, r39_58, r39_59, r39_60, r39_63, r39_66, r39_67, r39_68, r39_71, r39_72, r39_76, am_li0, am_liS, am_laR0, p_6 hP, p_7 hP, g1, g2, f_typ hA, f_typ hB, fa_typ hA, fa_typ hB, e1, e2, k1, k2, te, tc, z, not_true, if_false, List.length_cons, List.length_nil, List.set_cons_succ, List.set_cons_zero, Nat.reduceAdd, Nat.reduceLT, true_and]
      · rw [decide_eq_false z, b0]
        simp only [r39_49, r39_50, r39_53, r39_56, r39_58, r39_59, r39_60, r39_63, r39_66, r39_67, r39_68, r39_75, r39_76, am_li0, am_liS, am_laR0, p_6 hP, p_7 hP, g1, g2, f_typ hA, f_typ hB, fa_typ hA, fa_typ hB, e1, e2, k1, k2, te, tc, z, not_false_eq_true, if_true, List.length_cons, List.length_nil, List.set_cons_succ, List.set_cons_zero, Nat.reduceAdd, Nat.reduceLT, true_and]
    have sC : ∀ f g : Int32, am_Rn L xs d 39 78 [.ref P, .int (nI y), .int (nI c), .int (bI b), .int (nI e), .int f, .int g, v7] [] (mk s) Q = am_Rn L xs d 39 111 [.ref P, .int (nI y), .int (nI c), .int (bI b), .int (nI e), .int f, .int g, .int (bI (!b || decide (w.2.2.2 e = t.2.2.2 c)))] [] (mk s) Q := by
      intro f g
      cases b with
      | false =>
        rw [show (!false || decide (w.2.2.2 e = t.2.2.2 c)) = true from rfl, b0, b1]
        simp only [r39_78, r39_79, r39_104, r39_105, r39_109, am_li0, am_liS, if_true, List.length_cons, List.length_nil, List.set_cons_succ, List.set_cons_zero, Nat.reduceAdd, Nat.reduceLT, true_and]
      | true =>
        rw [show (!true || decide (w.2.2.2 e = t.2.2.2 c)) = decide (w.2.2.2 e = t.2.2.2 c) from rfl, b1]
        by_cases z : w.2.2.2 e = t.2.2.2 c
        · rw [decide_eq_true z, b1]
          simp only [r39_78, r39_79, r39_82, r39_83, r39_86, r39_89, r39_91, r39_92, r39_93, r39_96, r39_99, r39_100, r39_101, r39_104, r39_105, r39_109, am_li0, am_liS, am_laR0, p_6 hP, p_7 hP, g1, g2, f_lab hA, f_lab hB, fa_lab hA, fa_lab hB, e1, e2, k1, k2, le, lc, z, n1, not_true, if_false, List.length_cons, List.length_nil, List.set_cons_succ, List.set_cons_zero, Nat.reduceAdd, Nat.reduceLT, true_and]
        · rw [decide_eq_false z, b0]
          simp only [r39_78, r39_79, r39_82, r39_83, r39_86, r39_89, r39_91, r39_92, r39_93, r39_96, r39_99, r39_100, r39_101, r39_108, r39_109, am_li0, am_liS, am_laR0, p_6 hP, p_7 hP, g1, g2, f_lab hA, f_lab hB, fa_lab hA, fa_lab hB, e1, e2, k1, k2, le, lc, z, n1, not_false_eq_true, if_true, if_false, List.length_cons, List.length_nil, List.set_cons_succ, List.set_cons_zero, Nat.reduceAdd, Nat.reduceLT, true_and]
    have sD : ∀ f g h : Bool, am_Rn L xs d 39 111 [.ref P, .int (nI y), .int (nI c), .int (bI b), .int (nI e), .int (bI f), .int (bI g), .int (bI h)] [] (mk s) Q = if (f && g && h) = true then Q (some (.int (nI e))) (mk s) else am_Rn L xs d 39 5 [.ref P, .int (nI y), .int (nI c), .int (bI b), .int (nI (e + 1)), .int (bI f), .int (bI g), .int (bI h)] [] (mk s) Q := by
      intro f g h
      cases f with
      | false =>
        rw [if_neg (by simp), b0]
        simp only [r39_111, r39_113, r39_129, r39_132, am_li0, am_liS, nI_1, if_true, List.set_cons_succ, List.set_cons_zero]
      | true =>
        cases g with
        | false =>
          rw [if_neg (by simp), b0, b1]
          simp only [r39_111, r39_113, r39_116, r39_118, r39_129, r39_132, am_li0, am_liS, n1, nI_1, if_true, if_false, List.set_cons_succ, List.set_cons_zero]
        | true =>
          cases h with
          | false =>
            rw [if_neg (by simp), b0, b1]
            simp only [r39_111, r39_113, r39_116, r39_118, r39_121, r39_123, r39_129, r39_132, am_li0, am_liS, n1, nI_1, if_true, if_false, List.set_cons_succ, List.set_cons_zero]
          | true =>
            rw [if_pos (by decide), b1]
            simp only [r39_111, r39_113, r39_116, r39_118, r39_121, r39_123, r39_126, r39_128, am_li0, am_liS, n1, if_false]
    have go : am_Rn L xs d 39 5 [.ref P, .int (nI y), .int (nI c), .int (bI b), .int (nI e), v5, v6, v7] [] (mk s) Q = am_Rn L xs d 39 17 [.ref P, .int (nI y), .int (nI c), .int (bI b), .int (nI e), v5, v6, v7] [] (mk s) Q := by
      rw [r39_5]
      simp only [r39_7, r39_8, r39_11, r39_14, am_li0, am_liS, am_laR0, p_7 hP, g2, f_used hB, c2.1, h1, if_false]
    rw [go, sA, sB, sC, sD, ffF_s]
    show (if ffP t w M b c y e = true then _ else _) = _
    by_cases z : ffP t w M b c y e = true
    · rw [if_pos z, if_pos z, oI_some]
    · rw [if_neg z, if_neg z]
      exact ih (e + 1) _ _ _ (by omega) (by omega)
theorem c_ff {P a b' : Nat} {t w : Tr} {H : Nat → Nat} {M : Pr} (hQ : cQ s P a b' t w H M) {b : Bool} {c y : Nat} (hc : c < t.1) (hy : y < w.1) {Q : Option Value → am_S → Prop} : am_Call L xs d 39 [.ref P, .int (nI y), .int (nI c), .int (bI b)] (mk s) Q = Q (some (.int (oI (ffF t w M b c y (w.1 - (y + 1)) (y + 1))))) (mk s) := by
  have hl := c_ff_loop (L := L) (xs := xs) (d := d) hQ (b := b) hc hy (Q := Q) (w.1 - (y + 1)) (y + 1) (.retAddr 0) (.retAddr 0) (.retAddr 0) rfl (by omega)
  simp only [e39, r39_0, r39_1, r39_2, r39_3, am_li0, am_liS, nI_1, List.length_cons, List.length_nil, List.set_cons_succ, List.set_cons_zero, Nat.reduceAdd, Nat.reduceLT, true_and]
  exact hl
theorem c_pair_loop {P a b' : Nat} {t w : Tr} {H : Nat → Nat} {b : Bool} {x y : Nat} (hy : y < w.1) (hx : x < t.1) : ∀ (m c : Nat) (s : St) (M : Pr) (v5 : Value), t.1 - c = m → c ≤ t.1 → cQ s P a b' t w H M →
    ∃ s' : St, cQ s' P a b' t w H (prF t w b x y m c M) ∧ frJ P s s' ∧ ∀ Q : Option Value → am_S → Prop, am_Rn L xs (d + 1) 38 5 [.ref P, .int (nI x), .int (nI y), .int (bI b), .int (nI c), v5] [] (mk s) Q = Q none (mk s')
  | 0, c, s, M, v5, hm, hc, hQ => by
    refine ⟨s, hQ, frJ_refl P s, fun Q => ?_⟩
    obtain ⟨⟨hP, hA, hB, g1, g2, c1, c2, -, -⟩, -, -, hM, hp, hw, hw'⟩ := hQ
    have h12 := hw.1
    have q : c = t.1 := by omega
    subst q
    have h1 : nI t.1 ≤ nI t.1 := nI_le (Nat.le_refl _) (by omega)
    rw [r38_5]
    simp only [r38_7, r38_8, r38_11, r38_14, r38_75, am_li0, am_liS, am_laR0, p_6 hP, g1, f_used hA, c1.1, h1, if_true]
  | m + 1, c, s, M, v5, hm, hc, hQ => by
    have hQ' := hQ
    obtain ⟨⟨hP, hA, hB, g1, g2, c1, c2, -, -⟩, -, -, hM, hp, hw, hw'⟩ := hQ
    have h12 := hw.1
    have h12' := hw'.1
    have h1 : ¬ nI t.1 ≤ nI c := nI_ge (by omega) (by omega)
    have k1 : am_in (nI c) 12 = true := in_of (by omega) (by decide)
    have k2 : (nI c).toNatClampNeg = c := nI_clamp (by omega)
    have pc' := (c1.2.1 c (by omega)).1
    have em := (hM c (by omega)).1
    rw [prF_s]
    by_cases z : t.2.1 c = nI x
    · cases hu : M.1 c with
      | some u =>
        have hu12 := (hp.1 c u hu).2
        have ne : ¬ nI u = -1 := nI_m1 u (by omega)
        rw [hu, oI_some] at em
        have e : prS t w b x y c M = M := if_neg (fun q => by have := q.2; rw [hu] at this; cases this)
        rw [e]
        obtain ⟨s', r1, r2, r3⟩ := c_pair_loop (b := b) hy hx m (c + 1) s M v5 (by omega) (by omega) hQ'
        refine ⟨s', r1, r2, fun Q => ?_⟩
        rw [← r3 Q, r38_5]
        simp only [r38_7, r38_8, r38_11, r38_14, r38_17, r38_18, r38_21, r38_24, r38_26, r38_27, r38_28, r38_31, r38_32, r38_35, r38_37, r38_38, r38_39, r38_42, r38_69, r38_72, am_li0, am_liS, am_laR0, p_0 hP, p_6 hP, p_a1 hP, g1, f_used hA, f_par hA, fa_par hA, c1.1, h1, k1, k2, pc', z, em, ne, nI_1, not_true, if_false, List.set_cons_succ, List.set_cons_zero, true_and]
      | none =>
        rw [hu, oI_none] at em
        have e : prS t w b x y c M = pO M c (ffF t w M b c y (w.1 - (y + 1)) (y + 1)) := if_pos ⟨z, hu⟩
        have hf := fun Q => c_ff (L := L) (xs := xs) (d := d) hQ' (b := b) (show c < t.1 by omega) hy (Q := Q)
        rw [e]
        cases hv : ffF t w M b c y (w.1 - (y + 1)) (y + 1) with
        | none =>
          rw [hv, oI_none] at hf
          obtain ⟨s', r1, r2, r3⟩ := c_pair_loop (b := b) hy hx m (c + 1) s M (.int (-1)) (by omega) (by omega) hQ'
          refine ⟨s', r1, r2, fun Q => ?_⟩
          rw [← r3 Q, r38_5]
          simp only [r38_7, r38_8, r38_11, r38_14, r38_17, r38_18, r38_21, r38_24, r38_26, r38_27, r38_28, r38_31, r38_32, r38_35, r38_37, r38_38, r38_39, r38_45, r38_46, r38_47, r38_49, r38_50, r38_53, r38_55, r38_57, r38_58, r38_69, r38_72, am_li0, am_liS, am_laR0, p_oc hP, p_0 hP, p_6 hP, p_a1 hP, g1, f_used hA, f_par hA, fa_par hA, c1.1, h1, k1, k2, pc', z, em, hf, nI_1, am_tL, am_okI, not_true, if_true, if_false, List.length_cons, List.length_nil, List.set_cons_succ, List.set_cons_zero, Nat.reduceAdd, Nat.reduceLT, Nat.zero_le, and_true, true_and]
        | some v =>
          rw [hv, oI_some] at hf
          have hv12 := ffF_lt hv
          have ne : ¬ nI v = -1 := nI_m1 v (by omega)
          have hjn := fun Q => c_join (L := L) (xs := xs) (d := d) (s := s) (Q := Q) hP (show c < 12 by omega) (show v < 12 by omega)
          obtain ⟨s', r1, r2, r3⟩ := c_pair_loop (b := b) hy hx m (c + 1) _ (pJ M c v) (.int (nI v)) (by omega) (by omega) (cQ_J hQ' (show c < t.1 by omega) (show v < w.1 by omega))
          refine ⟨s', r1, frJ_trans (frJ_J _ _ _ _) r2, fun Q => ?_⟩
          rw [← r3 Q, r38_5]
          simp only [r38_7, r38_8, r38_11, r38_14, r38_17, r38_18, r38_21, r38_24, r38_26, r38_27, r38_28, r38_31, r38_32, r38_35, r38_37, r38_38, r38_39, r38_45, r38_46, r38_47, r38_49, r38_50, r38_53, r38_55, r38_57, r38_58, r38_61, r38_62, r38_64, r38_66, r38_69, r38_72, am_li0, am_liS, am_laR0, p_oc hP, p_0 hP, p_6 hP, p_a1 hP, g1, f_used hA, f_par hA, fa_par hA, c1.1, h1, k1, k2, pc', z, em, hf, hjn, ne, nI_1, am_tL, am_tN, am_okI, not_true, if_true, if_false, List.length_cons, List.length_nil, List.set_cons_succ, List.set_cons_zero, Nat.reduceAdd, Nat.reduceLT, Nat.zero_le, and_true, true_and]
    · have e : prS t w b x y c M = M := if_neg (fun q => z q.1)
      rw [e]
      obtain ⟨s', r1, r2, r3⟩ := c_pair_loop (b := b) hy hx m (c + 1) s M v5 (by omega) (by omega) hQ'
      refine ⟨s', r1, r2, fun Q => ?_⟩
      rw [← r3 Q, r38_5]
      simp only [r38_7, r38_8, r38_11, r38_14, r38_17, r38_18, r38_21, r38_24, r38_26, r38_27, r38_28, r38_69, r38_72, am_li0, am_liS, am_laR0, p_6 hP, g1, f_used hA, f_par hA, fa_par hA, c1.1, h1, k1, k2, pc', z, nI_1, not_false_eq_true, if_true, if_false, List.set_cons_succ, List.set_cons_zero, true_and]
/-- both passes -/
def prA (t w : Tr) (x y : Nat) (M : Pr) : Pr := prF t w false x y (t.1 - (x + 1)) (x + 1) (prF t w true x y (t.1 - (x + 1)) (x + 1) M)
theorem c_pair {P a b' : Nat} {t w : Tr} {H : Nat → Nat} {M : Pr} (hQ : cQ s P a b' t w H M) {x y : Nat} (hx : x < t.1) (hy : y < w.1) :
    ∃ s' : St, cQ s' P a b' t w H (prA t w x y M) ∧ frJ P s s' ∧ ∀ Q : Option Value → am_S → Prop, am_Call L xs (d + 2) 37 [.ref P, .int (nI x), .int (nI y)] (mk s) Q = Q none (mk s') := by
  obtain ⟨s1, r1, r2, r3⟩ := c_pair_loop (L := L) (xs := xs) (d := d) (b := true) hy hx (t.1 - (x + 1)) (x + 1) s M (.retAddr 0) rfl (by omega) hQ
  obtain ⟨s2, u1, u2, u3⟩ := c_pair_loop (L := L) (xs := xs) (d := d) (b := false) hy hx (t.1 - (x + 1)) (x + 1) s1 _ (.retAddr 0) rfl (by omega) r1
  refine ⟨s2, u1, frJ_trans r2 u2, fun Q => ?_⟩
  have hP := hQ.2.1.1
  have o1 : ∀ Q : Option Value → am_S → Prop, am_Call L xs (d + 1) 38 [.ref P, .int (nI x), .int (nI y), .int 1] (mk s) Q = Q none (mk s1) := by
    intro Q
    rw [← r3 Q]
    simp only [e38, r38_0, r38_1, r38_2, r38_3, am_li0, am_liS, nI_1, List.length_cons, List.length_nil, List.set_cons_succ, List.set_cons_zero, Nat.reduceAdd, Nat.reduceLT, true_and]
    rfl
  have o2 : ∀ Q : Option Value → am_S → Prop, am_Call L xs (d + 1) 38 [.ref P, .int (nI x), .int (nI y), .int 0] (mk s1) Q = Q none (mk s2) := by
    intro Q
    rw [← u3 Q]
    simp only [e38, r38_0, r38_1, r38_2, r38_3, am_li0, am_liS, nI_1, List.length_cons, List.length_nil, List.set_cons_succ, List.set_cons_zero, Nat.reduceAdd, Nat.reduceLT, true_and]
    rfl
  simp only [e37, r37_0, r37_1, r37_2, r37_3, r37_4, r37_7, r37_8, r37_9, r37_10, r37_11, r37_14, am_li0, am_liS, am_laR0, p_oc hP, o1, o2, am_tN, am_okI, List.length_nil, Nat.zero_le, and_true, true_and]
end
