/-! merge: the class, whole -/
def mgO (o : Option Mg) (f : Mg → Nat ⊕ Mg) (k : Nat) : Nat ⊕ Mg := match o with
  | some S => f S
  | none => .inl k
/-- the conflict's number, or what comes out -/
def mgK (n I : Nat) (l : List Sp) : List Sp → Mg → Nat → Nat ⊕ Mg
  | [], S, _ => .inr S
  | q :: r, S, k => mgO (mg1 n I l S q) (fun S' => mgK n I l r S' (k + 1)) k
theorem mgK_s {n I : Nat} {l r : List Sp} {q : Sp} {S S' : Mg} {k : Nat} (h : mg1 n I l S q = some S') : mgK n I l (q :: r) S k = mgK n I l r S' (k + 1) := by
  show mgO (mg1 n I l S q) _ k = _
  rw [h]; rfl
theorem mgK_n {n I : Nat} {l r : List Sp} {q : Sp} {S : Mg} {k : Nat} (h : mg1 n I l S q = none) : mgK n I l (q :: r) S k = .inl k := by
  show mgO (mg1 n I l S q) _ k = _
  rw [h]; rfl
theorem mgK_rOk {n I : Nat} {l : List Sp} : ∀ {r : List Sp} {S S' : Mg} {k : Nat}, mgV n I l S r → mgK n I l r S k = .inr S' → rOk S'.1
  | [], S, S', k, h, e => by
    have e : Sum.inr S = Sum.inr S' := e
    cases e
    exact h.2.1
  | q :: r, S, S', k, h, e => by
    cases hm : mg1 n I l S q with
    | none => rw [mgK_n hm] at e; cases e
    | some S1 => rw [mgK_s hm] at e; exact mgK_rOk (mgV_s h hm) e
def stW (s : St) (n : Nat) : St := w2 (w2 s 53 7 (nI n)) 53 8 0
/-- what a merge answers -/
def mgA : Nat ⊕ Mg → Int32
  | .inl k => nI (k + 1)
  | .inr _ => 0
def mgU : Nat ⊕ Mg → Int32
  | .inl k => nI k
  | .inr _ => -1
section
variable {L : Nat} {xs : Nat → Int32} {d : Nat}
theorem c_rn_loop {n I : Nat} {l1 l2 : List Sp} {v1 v2 v3 : Value} (hl2 : l2.length ≤ 24) : ∀ (r : List Sp) (k : Nat) (s : St) (S : Mg), k + r.length = l2.length → (∀ i, i < r.length → l2[k + i]? = r[i]?) → cG s n l1 l2 S → mgV n I l1 S r →
    ∃ s' : St, frMg s s' ∧ (∀ S', mgK n I l1 r S k = .inr S' → cG s' n l1 l2 S') ∧ ∀ Q : Option Value → am_S → Prop, am_Rn L xs (d + 5) 68 84 [.ref 53, v1, v2, v3, .int (nI k)] [] (mk s) Q = Q (some (.int (mgU (mgK n I l1 r S k)))) (mk s')
  | [], k, s, S, hk, hr, h, hV => by
    have e : k = l2.length := hk
    subst e
    refine ⟨s, frMg_r s, fun S' e => ?_, fun Q => ?_⟩
    · have e : Sum.inr S = Sum.inr S' := e
      cases e; exact h
    · have h1 : nI l2.length ≤ nI l2.length := nI_le (Nat.le_refl _) (by omega)
      have el : s.2.1 (89 + 13) 1 = nI l2.length := h.2.2.1.1
      rw [r68_84]
      simp only [r68_86, r68_87, r68_90, r68_93, r68_114, r68_115, am_li0, am_liS, am_laR0, g53_4, s_1 isE89, el, h1, if_true]
      rfl
  | q :: r, k, s, S, hk, hr, h, hV => by
    rw [List.length_cons] at hk
    have hq : l2[k]? = some q := hr 0 (by rw [List.length_cons]; omega)
    have h1 : ¬ nI l2.length ≤ nI k := nI_ge (by omega) (by omega)
    have el : s.2.1 (89 + 13) 1 = nI l2.length := h.2.2.1.1
    have n1 : ¬ (1 : Int32) = 0 := by decide
    obtain ⟨s1, f1, e⟩ := c_mergeStep (L := L) (xs := xs) (d := d) h hV hl2 hq
    rcases e with ⟨S', e1, e2, e3⟩ | ⟨e1, e3⟩
    · obtain ⟨s2, f2, g2, g3⟩ := c_rn_loop (v1 := v1) (v2 := v2) (v3 := v3) hl2 r (k + 1) s1 S' (by omega) (fun i hi => by
        have := hr (i + 1) (by rw [List.length_cons]; omega)
        rw [show k + 1 + i = k + (i + 1) by omega]
        exact this) e2 (mgV_s hV e1)
      rw [mgK_s e1]
      refine ⟨s2, frMg_t f1 f2, g2, fun Q => ?_⟩
      rw [← g3 Q, r68_84]
      simp only [r68_86, r68_87, r68_90, r68_93, r68_96, r68_97, r68_99, r68_102, r68_108, r68_111, am_li0, am_liS, am_laR0, am_tL, g53_4, s_1 isE89, g_oc, el, h1, e3, n1, nI_1, not_false_eq_true, if_true, if_false, am_okI, am_okR, List.length_cons, List.length_nil, List.set_cons_succ, List.set_cons_zero, Nat.reduceAdd, Nat.reduceLT, Nat.zero_le, Nat.reduceLeDiff, and_true, true_and]
    · rw [mgK_n e1]
      refine ⟨s1, f1, fun S' e => (by cases e), fun Q => ?_⟩
      rw [r68_84]
      simp only [r68_86, r68_87, r68_90, r68_93, r68_96, r68_97, r68_99, r68_102, r68_105, r68_107, am_li0, am_liS, am_laR0, am_tL, g53_4, s_1 isE89, g_oc, el, h1, e3, not_true, if_false, am_okI, am_okR, List.length_cons, List.length_nil, Nat.reduceAdd, Nat.zero_le, Nat.reduceLeDiff, and_true, true_and]
      rfl
theorem c_rn_fill {v1 v2 v3 : Value} : ∀ (m i : Nat) (s : St), 24 - i = m → i ≤ 24 → (∀ x, x < i → s.1 119 x = 0) →
    ∃ s' : St, (∀ x, x < 24 → s'.1 119 x = 0) ∧ (∀ q, q ≠ 119 → s'.1 q = s.1 q) ∧ s'.2 = s.2 ∧ ∀ Q : Option Value → am_S → Prop, am_Rn L xs d 68 34 [.ref 53, v1, v2, v3, .int (nI i)] [] (mk s) Q = am_Rn L xs d 68 55 [.ref 53, v1, v2, v3, .int (nI 24)] [] (mk s') Q
  | 0, i, s, hm, hi, h0 => by
    have e : i = 24 := by omega
    subst e
    refine ⟨s, h0, fun _ _ => rfl, rfl, fun Q => ?_⟩
    have h1 : (24 : Int32) ≤ nI 24 := by decide
    rw [r68_34]
    simp only [r68_36, r68_38, am_li0, am_liS, h1, if_true]
  | m + 1, i, s, hm, hi, h0 => by
    have h1 : ¬ (24 : Int32) ≤ nI i := nI_ge (b := 24) (by omega) (by decide)
    have i1 : am_in (nI i) 24 = true := in_of (by omega) (by decide)
    have i2 : (nI i).toNatClampNeg = i := nI_clamp (by omega)
    obtain ⟨s', q1, q2, q3, q4⟩ := c_rn_fill (v1 := v1) (v2 := v2) (v3 := v3) m (i + 1) (w1 s 119 i 0) (by omega) (by omega) (fun x hx => by
      by_cases e : x = i
      · rw [e, w1_a]
      · rw [w1_n _ _ _ e]; exact h0 x (by omega))
    refine ⟨s', q1, fun q hq => (q2 q hq).trans (w1_o _ _ _ hq), q3, fun Q => ?_⟩
    have nb0 : vp_nar .boolean 0 = 0 := rfl
    rw [← q4 Q, r68_34]
    simp only [r68_36, r68_38, r68_41, r68_42, r68_45, r68_47, r68_48, r68_49, r68_52, am_li0, am_liS, am_laR0, g53_5, w119, h1, i1, i2, nb0, nI_1, if_false, List.length_cons, List.length_nil, List.set_cons_succ, List.set_cons_zero, Nat.reduceAdd, Nat.reduceLT, true_and]
/-- what both scripts leave for the second one -/
def mgS0 (R : Rs) : Mg := (R, 0, fun _ => 0, fun _ => false)
theorem mgV_0 {t w1 w2 : Tr} {M1 M2 : Pr} {X1 X2 : Nat → Bool} (hw : tW t) (hw1 : tW w1) (hw2 : tW w2) (hu1 : 0 < w1.1) (hu2 : 0 < w2.1) (hp1 : pW t w1 M1) (hp2 : pW t w2 M2) (hI1 : mI M1) (hI2 : mI M2) (hT1 : sT t w1 M1 t.1 X1) : mgV t.1 (scI t w1 M1 X1) (scr t w1 M1 X1) (mgS0 ((scr t w1 M1 X1).foldl doS (trR t))) (scr t w2 M2 X2) := by
  have h12 := hw.1
  have h121 := hw1.1
  have h122 := hw2.1
  obtain ⟨l1, l2⟩ := scr_len (X := X1) hw hw1 hu1 hI1 hp1
  obtain ⟨l3, l4⟩ := scr_len (X := X2) hw hw2 hu2 hI2 hp2
  obtain ⟨n1, n2⟩ := scr_nu (X := X1) hw hw1 hu1 hp1
  obtain ⟨n3, n4⟩ := scr_nu (X := X2) hw hw2 hu2 hp2
  obtain ⟨e1, e2, e3⟩ := scr_end hw hw1 hu1 hp1 hI1 hT1
  refine ⟨⟨h12, by omega, ?_⟩, rOk_run _ _ (rOk_trR hw) (scrR hw hw1 hu1 hp1 hI1 hT1), e1, fun z hz => e2 z hz, fun j hj => absurd hj (Nat.not_lt_zero _), n3, n1, n2, l1, fun q hq h3 => ?_⟩
  · rw [n4]
    show 0 + scI t w2 M2 X2 ≤ 12
    omega
  · -- a node that the second script deletes
    have hx : ∃ x, x < t.1 ∧ q.2.1 = nI x := by
      have : ∀ (l : List Sp) (i : Nat), nuS t.1 i l → q ∈ l → ∃ x, x < t.1 ∧ q.2.1 = nI x := by
        intro l
        induction l with
        | nil => intro i _ h; cases h
        | cons r l ih =>
          intro i hn hm
          rw [nuS_c] at hn
          rcases List.mem_cons.mp hm with e | e
          · subst e
            rcases hn.2.2 with ⟨a, -, -⟩ | ⟨a, -, -⟩ | ⟨-, ⟨x, x1, x2, -⟩, -⟩
            · rw [h3] at a; exact absurd a (by decide)
            · rcases a with a | a <;> rw [h3] at a <;> exact absurd a (by decide)
            · exact ⟨x, x1, x2⟩
          · rcases hn.2.2 with ⟨-, -, c⟩ | ⟨-, -, c⟩ | ⟨-, -, c⟩
            · exact ih _ c e
            · exact ih _ c e
            · exact ih _ c e
      exact this _ 0 n3 hq
    obtain ⟨x, x1, x2⟩ := hx
    cases ho : M1.1 x with
    | some y => exact Or.inr (hsB_iff.mpr ⟨x, e3 x x1 (by rw [ho]; exact fun q => (by cases q)), x2⟩)
    | none =>
      left
      have hm : (3, nI x, -1, -1, -1, 0) ∈ dlF M1 t.1 := by
        have : ∀ m, x < m → ((3, nI x, -1, -1, -1, 0) : Sp) ∈ dlF M1 m := by
          intro m
          induction m with
          | zero => intro h; omega
          | succ m ih =>
            intro h
            rw [dlF_s]
            by_cases e : x = m
            · rw [← e, ho, dlO_n]; exact List.mem_append_left _ List.mem_cons_self
            · exact List.mem_append_right _ (ih (by omega))
        exact this t.1 x1
      have hm2 : ((3, nI x, -1, -1, -1, 0) : Sp) ∈ scr t w1 M1 X1 := by unfold scr; exact List.mem_append_right _ hm
      obtain ⟨k, hk⟩ := List.getElem?_of_mem hm2
      have hkl := (List.getElem?_eq_some_iff.mp hk).1
      refine fiF_ex (Nat.zero_le k) (by omega) ?_
      unfold sP
      rw [lg_at hk, lg_at hk, x2]
      show (decide ((3 : Int32) = 3) && decide (nI x = nI x)) = true
      rw [decide_eq_true rfl, decide_eq_true rfl]; rfl
theorem c_run {s : St} {t wa wb : Tr} (c0 : cT s 2 t) (c1 : cT s 7 wa) (c2 : cT s 12 wb) (hw : tW t) (hw1 : tW wa) (hw2 : tW wb) (ht : 0 < t.1) (hu1 : 0 < wa.1) (hu2 : 0 < wb.1) :
    ∃ (s' : St) (H1 H2 : Nat → Nat) (M1 M2 : Pr) (X1 X2 : Nat → Bool), (hP t H1 ∧ prt t wa H1 M1 ∧ pW t wa M1 ∧ sT t wa M1 t.1 X1) ∧ (hP t H2 ∧ prt t wb H2 M2 ∧ pW t wb M2 ∧ sT t wb M2 t.1 X2) ∧ ((∀ q, q < 55 → s'.1 q = s.1 q) ∧ (∀ q, 120 < q → s'.1 q = s.1 q)) ∧ (∀ q k, q < 53 ∨ 120 < q → s'.2.1 q k = s.2.1 q k) ∧ (∀ S', mgK t.1 (scI t wa M1 X1) (scr t wa M1 X1) (scr t wb M2 X2) (mgS0 ((scr t wa M1 X1).foldl doS (trR t))) 0 = .inr S' → cR s' S'.1) ∧ ∀ Q : Option Value → am_S → Prop, am_Call L xs (d + 46) 68 [.ref 53, .ref 2, .ref 7, .ref 12] (mk s) Q = Q (some (.int (mgU (mgK t.1 (scI t wa M1 X1) (scr t wa M1 X1) (scr t wb M2 X2) (mgS0 ((scr t wa M1 X1).foldl doS (trR t))) 0)))) (mk s') := by
  have h12 := hw.1
  obtain ⟨s1, H1, M1, X1, a1, a2, a3⟩ := c_dfind (L := L) (xs := xs) (d := d) isE59 (isF_t (j := 0) (by decide)) (isF_t (j := 1) (by decide)) (by decide) (by decide) c0 c1 hw hw1 ht hu1
  obtain ⟨s2, H2, M2, X2, b1, b2, b3⟩ := c_dfind (L := L) (xs := xs) (d := d) (s := s1) isE89 (isF_t (j := 0) (by decide)) (isF_t (j := 2) (by decide)) (by decide) (by decide) (cT_congr (fun q z1 z2 => a2.1 q (by omega)) (a2.2.1 _ _ (by omega) (by omega)) c0) (cT_congr (fun q z1 z2 => a2.1 q (by omega)) (a2.2.1 _ _ (by omega) (by omega)) c2) hw hw2 ht hu2
  obtain ⟨d1, d2, d3, d4, d5, d6, d7, d8⟩ := a1
  obtain ⟨e1, e2, e3, e4, e5, e6, e7, e8⟩ := b1
  have hV := mgV_0 (X2 := X2) hw hw1 hw2 hu1 hu2 d3 e3 d4 e4 d5
  have hva := scrR hw hw1 hu1 d3 d4 d5
  have hl1 := (scr_len (X := X1) hw hw1 hu1 d4 d3).1
  have hl2 := (scr_len (X := X2) hw hw2 hu2 e4 e3).1
  have sc1 : sc s2 59 (scr t wa M1 X1) := ⟨by rw [b2.2.1 _ _ (by omega) (by omega)]; exact d7.1, fun k p hk j hj => by rw [b2.1 _ (by omega)]; exact d7.2 k p hk j hj⟩
  generalize hI : scI t wa M1 X1 = I at hV
  generalize hL1 : scr t wa M1 X1 = l1 at hV hva hl1 sc1
  generalize hL2 : scr t wb M2 X2 = l2 at hV hl2 e7
  generalize hs3 : stW s2 t.1 = s3
  have f1 : s3.1 = s2.1 := by rw [← hs3]; rfl
  have f2 : s3.2.1 53 7 = nI t.1 := by
    rw [← hs3]
    show (w2 (w2 s2 53 7 (nI t.1)) 53 8 0).2.1 53 7 = _
    rw [w2_o _ _ (by omega), w2_a]
  have f3 : s3.2.1 53 8 = 0 := by
    rw [← hs3]
    show (w2 (w2 s2 53 7 (nI t.1)) 53 8 0).2.1 53 8 = _
    rw [w2_a]
  have f4 : ∀ q k, q ≠ 53 → s3.2.1 q k = s2.2.1 q k := fun q k hq => by
    rw [← hs3]
    show (w2 (w2 s2 53 7 (nI t.1)) 53 8 0).2.1 q k = _
    rw [w2_o _ _ (by omega), w2_o _ _ (by omega)]
  have f5 : s3.2.2 = s2.2.2 := by rw [← hs3]; rfl
  obtain ⟨s4, g1, g2, g3, g4⟩ := c_rn_fill (L := L) (xs := xs) (d := d + 46) (v1 := .ref 2) (v2 := .ref 7) (v3 := .ref 12) 24 0 s3 rfl (by omega) (fun x hx => absurd hx (Nat.not_lt_zero _))
  have ct4 : cT s4 2 t := cT_congr (fun q z1 z2 => by rw [g2 q (by omega), f1, b2.1 q (by omega), a2.1 q (by omega)]) (by rw [g3, f4 _ _ (by omega), b2.2.1 _ _ (by omega) (by omega), a2.2.1 _ _ (by omega) (by omega)]) c0
  obtain ⟨s5, k1, k2, k3⟩ := c_start (L := L) (xs := xs) (d := d + 43) (isF_t (j := 0) (by decide)) (by decide) ct4 hw
  have sc5 : sc s5 59 l1 := sc_F (by decide) k2 ⟨by rw [g3, f4 _ _ (by omega)]; exact sc1.1, fun k p hk j hj => by rw [g2 _ (by omega), f1]; exact sc1.2 k p hk j hj⟩
  have sc5' : sc s5 89 l2 := sc_F (by decide) k2 ⟨by rw [g3, f4 _ _ (by omega)]; exact e7.1, fun k p hk j hj => by rw [g2 _ (by omega), f1]; exact e7.2 k p hk j hj⟩
  obtain ⟨s6, m1, m2, m3⟩ := c_performFirst (L := L) (xs := xs) (d := d + 42) (n := l1.length) isE59 (by decide) hl1 (Nat.le_refl _) sc5 (rOk_trR hw) k1 (by rw [List.take_length]; exact hva)
  rw [List.take_length] at m1
  have f56 := frF_t k2 m2
  generalize hR1 : l1.foldl doS (trR t) = R1 at hV m1
  have hG : cG s6 t.1 l1 l2 (mgS0 R1) := ⟨m1, sc_F (by decide) m2 sc5, sc_F (by decide) m2 sc5', by rw [f56.2.1 _ _ (by omega), g3]; exact f2, by rw [f56.2.1 _ _ (by omega), g3]; exact f3, fun j hj => absurd hj (Nat.not_lt_zero _), fun k hk => by rw [f56.1 119 (by omega), g1 k hk]; rfl⟩
  obtain ⟨s7, n1, n2, n3⟩ := c_rn_loop (L := L) (xs := xs) (d := d + 41) (v1 := .ref 2) (v2 := .ref 7) (v3 := .ref 12) hl2 l2 0 s6 (mgS0 R1) (by omega) (fun i hi => by rw [Nat.zero_add]) hG hV
  have arr : ∀ q, ¬ (55 ≤ q ∧ q ≤ 120) → s7.1 q = s.1 q := fun q hq => by rw [n1.1 q (by omega) (by omega) (by omega), f56.1 q (by omega), g2 q (by omega), f1, b2.1 q (by omega), a2.1 q (by omega)]
  refine ⟨s7, H1, H2, M1, M2, X1, X2, ⟨d1, d2, d3, d5⟩, ⟨e1, e2, e3, e5⟩, ⟨fun q hq => arr q (by omega), fun q hq => arr q (by omega)⟩, fun q k hq => ?_, ?_, fun Q => ?_⟩
  · rw [n1.2.1 q k (by omega) (by omega), f56.2.1 q k (by omega), g3, f4 q k (by omega), b2.2.1 q k (by omega) (by omega), a2.2.1 q k (by omega) (by omega)]
  · rw [hI, hL1, hL2, hR1]
    exact fun S' e => (n2 S' e).1
  · rw [hI, hL1, hL2, hR1]
    have g4 : am_Rn L xs (d + 46) 68 34 [.ref 53, .ref 2, .ref 7, .ref 12, .int 0] [] (mk s3) Q = _ := g4 Q
    have n3 : am_Rn L xs (d + 46) 68 84 [.ref 53, .ref 2, .ref 7, .ref 12, .int 0] [] (mk s6) Q = _ := n3 Q
    have eu : s2.2.1 2 4 = nI t.1 := by rw [b2.2.1 _ _ (by omega) (by omega), a2.2.1 _ _ (by omega) (by omega)]; exact c0.1
    have el : s5.2.1 (59 + 13) 1 = nI l1.length := sc5.1
    have hF2 : isF 2 12 := isF_t (j := 0) (by decide)
    have v7 : ∀ {y o : Nat} {f : am_S → Prop}, am_wf y o (mk s2) 53 5 7 (.int (nI t.1)) f = f (mk (w2 s2 53 7 (nI t.1))) := v53_7
    have v8 : ∀ {y o : Nat} {f : am_S → Prop}, am_wf y o (mk (w2 s2 53 7 (nI t.1))) 53 5 8 (.int 0) f = f (mk s3) := fun {y o f} => by rw [← hs3]; exact v53_8
    have a3 : ∀ Q : Option Value → am_S → Prop, am_Call L xs (d + 45) 24 [.ref 59, .ref 2, .ref 7] (mk s) Q = Q none (mk s1) := a3
    have b3 : ∀ Q : Option Value → am_S → Prop, am_Call L xs (d + 45) 24 [.ref 89, .ref 2, .ref 12] (mk s1) Q = Q none (mk s2) := b3
    have k3 : ∀ Q : Option Value → am_S → Prop, am_Call L xs (d + 45) 23 [.ref 54, .ref 2] (mk s4) Q = Q none (mk s5) := k3
    have S0 : am_Call L xs (d + 46) 68 [.ref 53, .ref 2, .ref 7, .ref 12] (mk s) Q = am_Rn L xs (d + 46) 68 34 [.ref 53, .ref 2, .ref 7, .ref 12, .int 0] [] (mk s3) Q := by
      simp only [e68, r68_0, r68_1, r68_4, r68_5, r68_6, r68_9, r68_10, r68_13, r68_14, r68_15, r68_18, r68_19, r68_20, r68_23, r68_26, r68_27, r68_28, r68_31, r68_32, am_li0, am_liS, am_laR0, am_laS, am_tN, g53_1, g53_2, d_oc isE59.1, d_oc isE89.1, f_used hF2, eu, a3, b3, v7, v8, am_okI, am_okR, List.length_cons, List.length_nil, List.set_cons_succ, List.set_cons_zero, Nat.reduceAdd, Nat.reduceLT, Nat.zero_le, Nat.reduceLeDiff, and_true, true_and]
    rw [S0, g4, ← n3]
    simp only [r68_55, r68_56, r68_59, r68_60, r68_63, r68_64, r68_67, r68_68, r68_71, r68_74, r68_75, r68_78, r68_81, r68_82, am_li0, am_liS, am_laR0, am_laS, am_tN, g53_0, g53_3, f_oc isF_54, s_oc isE59, s_1 isE59, el, k3, m3, am_okI, am_okR, List.length_cons, List.length_nil, List.set_cons_succ, List.set_cons_zero, Nat.reduceAdd, Nat.reduceLT, Nat.zero_le, Nat.reduceLeDiff, and_true, true_and]
end
