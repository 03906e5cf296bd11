/-! merge: the reference, whole -/
section
variable {L : Nat} {xs : Nat → Int32} {d : Nat}
theorem m_mg_do {l : List Sp} (hl : l.length ≤ 24) : ∀ (m k : Nat) (s : St) (R : Rs), l.length - k = m → k ≤ l.length → msc s 2 l → rOk R → mR s R → thA s R.2.1 → vaS R (l.drop k) →
    ∃ s' : St, mR s' ((l.drop k).foldl doS R) ∧ thA s' ((l.drop k).foldl doS R).2.1 ∧ frE s s' ∧ ∀ Q : Option Value → am_S → Prop, am_Rn L xs (d + 3) 119 59 [.ref 121, .int (nI (80 + k))] [] (mk s) Q = am_Rn L xs (d + 3) 119 101 [.ref 121, .int (nI (80 + l.length))] [] (mk s') Q
  | 0, k, s, R, hm, hk, hs, hR, h, ht, hv => by
    have e : k = l.length := by omega
    subst e
    rw [List.drop_length]
    refine ⟨s, h, ht, ⟨fun _ _ => rfl, fun _ _ _ _ => rfl, rfl⟩, fun Q => ?_⟩
    have h1 : nI (80 + l.length) ≤ nI (80 + l.length) := nI_le (Nat.le_refl _) (by omega)
    have z1 : am_in 2 4 = true := by decide
    have z2 : (2 : Int32).toNatClampNeg = 2 := rfl
    rw [r119_59]
    simp only [r119_60, r119_62, r119_63, r119_66, r119_67, r119_68, r119_69, am_li0, am_liS, am_laR0, g121_18, a138, hs.1, z1, z2, ix80, h1, if_true, true_and]
  | m + 1, k, s, R, hm, hk, hs, hR, h, ht, hv => by
    have h1 : ¬ nI (80 + l.length) ≤ nI (80 + k) := nI_ge (by omega) (by omega)
    have z1 : am_in 2 4 = true := by decide
    have z2 : (2 : Int32).toNatClampNeg = 2 := rfl
    have hlt : k < l.length := by omega
    have e1 : l.drop k = l[k] :: l.drop (k + 1) := List.drop_eq_getElem_cons hlt
    have hg : l[k]? = some l[k] := List.getElem?_eq_getElem (by omega)
    rw [e1] at hv ⊢
    obtain ⟨s1, a1, a2, a3, a4, a5⟩ := m_does1 (L := L) (xs := xs) (d := d) (i := 2) (by omega) hs hl hg hR h ht hv.1
    obtain ⟨s', b1, b2, b3, b4⟩ := m_mg_do hl m (k + 1) s1 (doS R l[k]) (by omega) (by omega) (msc_E a3 hs) (rOk_do hR hv.1) a1 a2 hv.2
    refine ⟨s', b1, b2, frE_t a3 b3, fun Q => ?_⟩
    have a4 : am_in (nI (80 + k)) 160 = true ∧ (nI (80 + k)).toNatClampNeg = 80 + k := a4
    have a5 : ∀ Q : Option Value → am_S → Prop, am_Call L xs (d + 2) 114 [.ref 121, .int (nI (80 + k)), .int (s.1 140 (80 + k)), .int (s.1 141 (80 + k)), .int (s.1 142 (80 + k))] (mk s) Q = Q none (mk s1) := a5
    have e9 : nI (80 + k) + 1 = nI (80 + (k + 1)) := nI_1 (80 + k)
    rw [← b4 Q, r119_59]
    simp only [r119_60, r119_62, r119_63, r119_66, r119_67, r119_68, r119_69, r119_72, r119_73, r119_74, r119_75, r119_78, r119_79, r119_80, r119_81, r119_84, r119_85, r119_86, r119_87, r119_90, r119_91, r119_92, r119_95, r119_98, am_li0, am_liS, am_laR0, am_tN, m_oc, g121_18, g121_20, g121_21, g121_22, a138, a140, a141, a142, hs.1, z1, z2, ix80, h1, a4.1, a4.2, a5, e9, if_false, am_okI, am_okR, List.length_cons, List.length_nil, List.set_cons_succ, List.set_cons_zero, Nat.reduceAdd, Nat.reduceLT, Nat.zero_le, Nat.reduceLeDiff, and_true, true_and]
theorem m_mg_fill : ∀ (m i : Nat) (s : St), 12 - i = m → i ≤ 12 → (∀ x, x < i → s.1 154 x = 0) →
    ∃ s' : St, (∀ x, x < 12 → s'.1 154 x = 0) ∧ (∀ q, q ≠ 154 → q ≠ 155 → s'.1 q = s.1 q) ∧ s'.2 = s.2 ∧ ∀ Q : Option Value → am_S → Prop, am_Rn L xs d 119 103 [.ref 121, .int (nI i)] [] (mk s) Q = am_Rn L xs d 119 129 [.ref 121, .int (nI 12)] [] (mk s') Q
  | 0, i, s, hm, hi, h0 => by
    have e : i = 12 := by omega
    subst e
    refine ⟨s, h0, fun _ _ _ => rfl, rfl, fun Q => ?_⟩
    have h1 : (12 : Int32) ≤ nI 12 := by decide
    rw [r119_103]
    simp only [r119_104, r119_106, am_li0, am_liS, h1, if_true]
  | m + 1, i, s, hm, hi, h0 => by
    have h1 : ¬ (12 : Int32) ≤ nI i := nI_ge (b := 12) (by omega) (by decide)
    have i1 : am_in (nI i) 12 = true := in_of (by omega) (by decide)
    have i2 : (nI i).toNatClampNeg = i := nI_clamp (by omega)
    obtain ⟨s', q1, q2, q3, q4⟩ := m_mg_fill m (i + 1) (w1 (w1 s 154 i 0) 155 i 0) (by omega) (by omega) (fun x hx => by
      rw [w1_o _ _ _ (by omega)]
      by_cases e : x = i
      · rw [e, w1_a]
      · rw [w1_n _ _ _ e]; exact h0 x (by omega))
    refine ⟨s', q1, fun q hq hq' => (q2 q hq hq').trans ((w1_o _ _ _ hq').trans (w1_o _ _ _ hq)), q3, fun Q => ?_⟩
    have nb0 : vp_nar .boolean 0 = 0 := rfl
    rw [← q4 Q, r119_103]
    simp only [r119_104, r119_106, r119_109, r119_110, r119_113, r119_114, r119_115, r119_116, r119_117, r119_120, r119_121, r119_122, r119_123, r119_126, am_li0, am_liS, am_laR0, g121_38, g121_39, w154', w155', h1, i1, i2, nb0, nI_1, if_false, List.length_cons, List.length_nil, List.set_cons_succ, List.set_cons_zero, Nat.reduceAdd, Nat.reduceLT, true_and]
def frMr (s s' : St) : Prop := (∀ q, ¬ (147 ≤ q ∧ q ≤ 151) → q ≠ 154 → q ≠ 155 → s'.1 q = s.1 q) ∧ (∀ q k, ¬ (q = 121 ∧ k = 28) → ¬ (q = 121 ∧ k = 29) → ¬ (q = 121 ∧ k = 35) → s'.2.1 q k = s.2.1 q k)
theorem ix1 (k : Nat) : (1 : Int32) + nI k = nI (k + 1) := by
  show nI 1 + nI k = _
  rw [nI_add, Nat.add_comm]
theorem ix120 (k : Nat) : (120 : Int32) + nI k = nI (120 + k) := by
  show nI 120 + nI k = _
  rw [nI_add]
theorem m_mg_se {n I : Nat} {l1 l2 : List Sp} (hl2 : l2.length ≤ 24) : ∀ (r : List Sp) (k : Nat) (s : St) (S : Mg), k + r.length = l2.length → (∀ i, i < r.length → l2[k + i]? = r[i]?) → mG s n I l1 l2 S → mgV n I l1 S r → s.1 122 0 = nI n →
    ∃ s' : St, frMr s s' ∧ (∀ S', mgK n I l1 r S k = .inr S' → mR s' S'.1 ∧ thA s' S'.1.2.1 ∧ s'.2.1 121 28 = 1) ∧ (∀ k', mgK n I l1 r S k = .inl k' → s'.2.1 121 28 = 0) ∧ ∀ Q : Option Value → am_S → Prop, am_Rn L xs (d + 5) 119 131 [.ref 121, .int (nI k)] [] (mk s) Q = Q (some (.int (mgA (mgK n I l1 r S k)))) (mk s')
  | [], k, s, S, hk, hr, h, hV, h0 => by
    have e : k = l2.length := hk
    subst e
    generalize hs1 : w2 s 121 28 1 = s1
    have b1 : s1.1 = s.1 := by rw [← hs1]; rfl
    have b2 : s1.2.1 121 28 = 1 := by rw [← hs1, w2_a]
    have b4 : ∀ q k, ¬ (q = 121 ∧ k = 28) → s1.2.1 q k = s.2.1 q k := fun q k n1 => by rw [← hs1, w2_o _ _ n1]
    refine ⟨s1, ⟨fun q _ _ _ => by rw [b1], fun q k n1 _ _ => b4 q k n1⟩, fun S' e => ?_, fun k' e => (by cases e), fun Q => ?_⟩
    · have e : Sum.inr S = Sum.inr S' := e
      cases e
      exact ⟨mR_congr (fun q _ _ => by rw [b1]) (b4 _ _ (by omega)) (b4 _ _ (by omega)) h.1, thA_congr (by rw [b1]) h.2.1, b2⟩
    · have h1 : nI l2.length ≤ nI l2.length := nI_le (Nat.le_refl _) (by omega)
      have el : s.1 138 3 = nI l2.length := h.2.2.2.1.1
      have z1 : am_in 3 4 = true := by decide
      have z2 : (3 : Int32).toNatClampNeg = 3 := rfl
      rw [r119_131]
      simp only [r119_132, r119_133, r119_136, r119_137, r119_138, r119_173, r119_174, r119_175, r119_178, r119_179, am_li0, am_liS, am_laR0, g121_18, a138, v121_28', el, h1, z1, z2, hs1, if_true, true_and]
      rfl
  | q :: r, k, s, S, hk, hr, h, hV, h0 => by
    rw [List.length_cons] at hk
    have hq : l2[k]? = some q := hr 0 (by rw [List.length_cons]; omega)
    have h1 : ¬ nI l2.length ≤ nI k := nI_ge (by omega) (by omega)
    have el : s.1 138 3 = nI l2.length := h.2.2.2.1.1
    have n1 : ¬ (1 : Int32) = 0 := by decide
    have z1 : am_in 3 4 = true := by decide
    have z2 : (3 : Int32).toNatClampNeg = 3 := rfl
    have y1 : am_in 0 4 = true := by decide
    have y2 : (0 : Int32).toNatClampNeg = 0 := rfl
    obtain ⟨s1, f1, e⟩ := m_second (L := L) (xs := xs) (d := d) h hV hl2 hq
    rcases e with ⟨S', e1, e2, e3⟩ | ⟨e1, e3⟩
    · obtain ⟨s2, f2, g1, g2, g3⟩ := m_mg_se hl2 r (k + 1) s1 S' (by omega) (fun i hi => by
        have := hr (i + 1) (by rw [List.length_cons]; omega)
        rw [show k + 1 + i = k + (i + 1) by omega]
        exact this) e2 (mgV_s hV e1) (by rw [f1.1 122 (by omega) (by omega) (by omega)]; exact h0)
      rw [mgK_s e1]
      refine ⟨s2, ⟨fun q n1 n2 n3 => (f2.1 q n1 n2 n3).trans (f1.1 q n1 n2 n3), fun q k n1 n2 n3 => (f2.2 q k n1 n2 n3).trans (f1.2.1 q k n2 n3)⟩, g1, g2, fun Q => ?_⟩
      rw [← g3 Q, r119_131]
      simp only [r119_132, r119_133, r119_136, r119_137, r119_138, r119_141, r119_142, r119_144, r119_145, r119_146, r119_147, r119_150, r119_151, r119_152, r119_155, r119_167, r119_170, am_li0, am_liS, am_laR0, am_tL, m_oc, g121_0, g121_18, a122, a138, el, h0, h1, z1, z2, y1, y2, ix120, e3, n1, nI_1, not_false_eq_true, if_true, if_false, am_okI, am_okR, List.length_cons, List.length_nil, List.set_cons_succ, List.set_cons_zero, Nat.reduceAdd, Nat.reduceLT, Nat.zero_le, Nat.reduceLeDiff, and_true, true_and]
    · rw [mgK_n e1]
      generalize hs2 : w2 s1 121 28 0 = s2
      have b1 : s2.1 = s1.1 := by rw [← hs2]; rfl
      have b2 : s2.2.1 121 28 = 0 := by rw [← hs2, w2_a]
      have b4 : ∀ q k, ¬ (q = 121 ∧ k = 28) → s2.2.1 q k = s1.2.1 q k := fun q k n1 => by rw [← hs2, w2_o _ _ n1]
      refine ⟨s2, ⟨fun q n1 n2 n3 => by rw [b1]; exact f1.1 q n1 n2 n3, fun q k n1 n2 n3 => (b4 q k n1).trans (f1.2.1 q k n2 n3)⟩, fun S' e => (by cases e), fun k' e => b2, fun Q => ?_⟩
      rw [r119_131]
      simp only [r119_132, r119_133, r119_136, r119_137, r119_138, r119_141, r119_142, r119_144, r119_145, r119_146, r119_147, r119_150, r119_151, r119_152, r119_155, r119_158, r119_159, r119_160, r119_163, r119_164, r119_165, r119_166, am_li0, am_liS, am_laR0, am_tL, m_oc, g121_0, g121_18, a122, a138, v121_280, el, h0, h1, z1, z2, y1, y2, ix120, ix1, e3, hs2, not_true, if_false, am_okI, am_okR, List.length_cons, List.length_nil, Nat.reduceAdd, Nat.zero_le, Nat.reduceLeDiff, and_true, true_and]
      rfl
theorem m_merge1 {s : St} {j u0 u1 : Nat} {Q : Option Value → am_S → Prop} (e0 : s.1 122 0 = nI u0) (e1 : s.1 122 1 = nI u1) (h0 : u0 ≤ 12) (h1 : u1 ≤ 12) (h2 : u0 = 0 ∨ u1 = 0 ∨ s.1 122 2 = 0) : am_Call L xs d 119 [.ref 121] (mk s) Q = Q (some (.int (-1))) (mk s) := by
  have z1 : am_in 0 4 = true := by decide
  have z2 : (0 : Int32).toNatClampNeg = 0 := rfl
  have y1 : am_in 1 4 = true := by decide
  have y2 : (1 : Int32).toNatClampNeg = 1 := rfl
  have x1 : am_in 2 4 = true := by decide
  have x2 : (2 : Int32).toNatClampNeg = 2 := rfl
  by_cases c0 : u0 = 0
  · exact m_merge0 (by rw [e0, c0]; rfl)
  · have c0' : ¬ nI u0 = 0 := nI_ne0 (by omega) (by omega)
    by_cases c1 : u1 = 0
    · have c1' : s.1 122 1 = 0 := by rw [e1, c1]; rfl
      simp only [e119, r119_0, r119_1, r119_4, r119_5, r119_6, r119_9, r119_10, r119_13, r119_14, r119_15, r119_27, r119_28, am_laR0, g121_0, a122, z1, z2, y1, y2, e0, c1', c0', if_true, if_false, true_and]
    · have c1' : ¬ nI u1 = 0 := nI_ne0 (by omega) (by omega)
      have c2 := (h2.resolve_left c0).resolve_left c1
      simp only [e119, r119_0, r119_1, r119_4, r119_5, r119_6, r119_9, r119_10, r119_13, r119_14, r119_15, r119_18, r119_19, r119_22, r119_23, r119_24, r119_27, r119_28, am_laR0, g121_0, a122, z1, z2, y1, y2, x1, x2, e0, e1, c2, c0', c1', not_true, if_false, true_and]
theorem m_mergeT {s : St} {t wa wb : Tr} {H1 H2 : Nat → Nat} {M1 M2 : Pr} {X1 X2 : Nat → Bool} (t0 : mT s 0 t) (t1 : mT s 1 wa) (t2 : mT s 2 wb) (hw : tW t) (hw1 : tW wa) (hw2 : tW wb) (ht : 0 < t.1) (hu1 : 0 < wa.1) (hu2 : 0 < wb.1) (f1 : hP t H1 ∧ prt t wa H1 M1 ∧ pW t wa M1 ∧ sT t wa M1 t.1 X1) (f2 : hP t H2 ∧ prt t wb H2 M2 ∧ pW t wb M2 ∧ sT t wb M2 t.1 X2) :
    ∃ s' : St, (∀ S', mgK t.1 (scI t wa M1 X1) (scr t wa M1 X1) (scr t wb M2 X2) (mgS0 ((scr t wa M1 X1).foldl doS (trR t))) 0 = .inr S' → mR s' S'.1 ∧ thA s' S'.1.2.1 ∧ s'.2.1 121 28 = 1) ∧ (∀ k', mgK t.1 (scI t wa M1 X1) (scr t wa M1 X1) (scr t wb M2 X2) (mgS0 ((scr t wa M1 X1).foldl doS (trR t))) 0 = .inl k' → s'.2.1 121 28 = 0) ∧ (∀ q, ¬ (126 ≤ q ∧ q ≤ 155) ∨ q = 146 → s'.1 q = s.1 q) ∧ s'.1 138 1 = s.1 138 1 ∧ (∀ q m, 139 ≤ q → q ≤ 144 → 40 ≤ m → m < 80 → s'.1 q m = s.1 q m) ∧ (∀ q k, q ≠ 121 ∨ k = 26 → s'.2.1 q k = s.2.1 q k) ∧ ∀ Q : Option Value → am_S → Prop, am_Call L xs (d + 6) 119 [.ref 121] (mk s) Q = Q (some (.int (mgA (mgK t.1 (scI t wa M1 X1) (scr t wa M1 X1) (scr t wb M2 X2) (mgS0 ((scr t wa M1 X1).foldl doS (trR t))) 0)))) (mk s') := by
  have h12 := hw.1
  have h121 := hw1.1
  have h122 := hw2.1
  obtain ⟨hH1, p1, q1, x1⟩ := f1
  obtain ⟨hH2, p2, q2, x2⟩ := f2
  have I1 := prt_I hw hw1 hH1 p1
  have I2 := prt_I hw hw2 hH2 p2
  have hV := mgV_0 (X2 := X2) hw hw1 hw2 hu1 hu2 q1 q2 I1 I2 x1
  have hva := scrR hw hw1 hu1 q1 I1 x1
  have hl1 := (scr_len (X := X1) hw hw1 hu1 I1 q1).1
  have hl2 := (scr_len (X := X2) hw hw2 hu2 I2 q2).1
  -- the first script
  obtain ⟨s1, M, X, ⟨a1, a1'⟩, a2, a3, a4, a5, a6, a7⟩ := m_work (L := L) (xs := xs) (d := d) (j := 0) (j' := 1) (by omega) (by omega) hw hw1 hH1 t0 t1 ht hu1
  have eM : M = M1 := prt_un a1 p1
  subst eM
  obtain ⟨eS, eI⟩ := scr_congr q1 (sT_un a2 x1)
  rw [eS] at a3
  rw [eI] at a4
  generalize hI : scI t wa M X1 = I at hV a4
  generalize hL1 : scr t wa M X1 = l1 at hV hva hl1 a3
  obtain ⟨s2, b1, b2, b3, b4⟩ := m_keep (L := L) (xs := xs) (d := d + 5) (i := 2) (by omega) (by omega) a3 (by omega)
  have tq : ∀ q, 122 ≤ q → q ≤ 125 → s2.1 q = s.1 q := fun q g1 g2 => by rw [b3.1 q (by omega), a6.1 q (by omega)]
  -- the second one
  obtain ⟨s3, M', X', ⟨c1, c1'⟩, c2, c3, c4, c5, c6, c7⟩ := m_work (L := L) (xs := xs) (d := d) (s := s2) (j := 0) (j' := 2) (by omega) (by omega) hw hw2 hH2 (mT_congr (fun q z1 z2 => tq q (by omega) (by omega)) t0) (mT_congr (fun q z1 z2 => tq q (by omega) (by omega)) t2) ht hu2
  have eM : M' = M2 := prt_un c1 p2
  subst eM
  obtain ⟨eS2, -⟩ := scr_congr q2 (sT_un c2 x2)
  rw [eS2] at c3
  generalize hL2 : scr t wb M' X2 = l2 at hV hl2 c3
  obtain ⟨s4, d1, d2, d3, d4⟩ := m_keep (L := L) (xs := xs) (d := d + 5) (i := 3) (by omega) (by omega) c3 (by omega)
  have e1 : msc s4 2 l1 := by
    refine ⟨by rw [(d3.2.2.1 2 (by omega)).1, (c6.2.2.1 2 (by omega)).1]; exact b1.1, fun k p hk j hj => ?_⟩
    have hkl : k < l1.length := (List.getElem?_eq_some_iff.mp hk).1
    rw [d3.2.1 _ _ (by omega) (by omega) (by omega), c6.2.1 _ _ (by omega) (by omega) (by omega)]
    exact b1.2 k p hk j hj
  have e2 : s4.1 145 2 = nI I := by rw [(d3.2.2.1 2 (by omega)).2, (c6.2.2.1 2 (by omega)).2, b2]; exact a4
  have tq4 : ∀ q, 122 ≤ q → q ≤ 125 → s4.1 q = s.1 q := fun q g1 g2 => by rw [d3.1 q (by omega), c6.1 q (by omega), tq q g1 g2]
  -- the start
  obtain ⟨s5, g1, g2, g3, g4⟩ := m_begin (L := L) (xs := xs) (d := d + 5) (s := s4) (j := 0) (t := t) (by omega) hw (mT_congr (fun q z1 z2 => tq4 q (by omega) (by omega)) t0)
  obtain ⟨s6, i1, i2, i3, i4⟩ := m_mg_do (L := L) (xs := xs) (d := d + 3) hl1 l1.length 0 s5 (trR t) rfl (Nat.zero_le _) (msc_E g3 e1) (rOk_trR hw) g1 g2 hva
  rw [List.drop_zero] at i1 i2
  generalize hR1 : l1.foldl doS (trR t) = R1 at hV i1 i2
  have f56 := frE_t g3 i3
  obtain ⟨s7, j1, j2, j3, j4⟩ := m_mg_fill (L := L) (xs := xs) (d := d + 6) 12 0 s6 rfl (by omega) (fun x hx => absurd hx (Nat.not_lt_zero _))
  have a57 : ∀ q, ¬ (147 ≤ q ∧ q ≤ 151) → q ≠ 154 → q ≠ 155 → s7.1 q = s4.1 q := fun q n1 n2 n3 => by rw [j2 q n2 n3, f56.1 q n1]
  have hG : mG s7 t.1 I l1 l2 (mgS0 R1) := by
    refine ⟨mR_congr (fun q z1 z2 => j2 q (by omega) (by omega)) (by rw [j3]) (by rw [j3]) i1, thA_congr (j2 147 (by omega) (by omega)) i2, ⟨by rw [a57 138 (by omega) (by omega) (by omega)]; exact e1.1, fun k p hk j hj => by rw [a57 _ (by omega) (by omega) (by omega)]; exact e1.2 k p hk j hj⟩, ⟨by rw [a57 138 (by omega) (by omega) (by omega)]; exact d1.1, fun k p hk j hj => by rw [a57 _ (by omega) (by omega) (by omega)]; exact d1.2 k p hk j hj⟩, by rw [a57 145 (by omega) (by omega) (by omega)]; exact e2, fun j hj => absurd hj (Nat.not_lt_zero _), fun k j hj hk _ _ => by rw [j1 j hj]; rfl⟩
  have h7 : s7.1 122 0 = nI t.1 := by rw [a57 122 (by omega) (by omega) (by omega), tq4 122 (by omega) (by omega)]; exact t0.1
  obtain ⟨s8, k1, k2, k3, k4⟩ := m_mg_se (L := L) (xs := xs) (d := d + 1) hl2 l2 0 s7 (mgS0 R1) (by omega) (fun i hi => by rw [Nat.zero_add]) hG hV h7
  have a84 : ∀ q, ¬ (147 ≤ q ∧ q ≤ 151) → q ≠ 154 → q ≠ 155 → s8.1 q = s4.1 q := fun q n1 n2 n3 => (k1.1 q n1 n2 n3).trans (a57 q n1 n2 n3)
  refine ⟨s8, k2, k3, fun q hq => ?_, ?_, fun q m n1 n2 n3 n4 => ?_, fun q k hq => ?_, fun Q => ?_⟩
  · rw [a84 q (by omega) (by omega) (by omega), d3.1 q (by omega), c6.1 q (by omega), b3.1 q (by omega), a6.1 q (by omega)]
  · rw [a84 138 (by omega) (by omega) (by omega), (d3.2.2.1 1 (by omega)).1, (c6.2.2.1 1 (by omega)).1, (b3.2.2.1 1 (by omega)).1, (a6.2.2.1 1 (by omega)).1]
  · rw [a84 q (by omega) (by omega) (by omega), d3.2.1 q m n1 n2 (by omega), c6.2.1 q m n1 n2 (by omega), b3.2.1 q m n1 n2 (by omega), a6.2.1 q m n1 n2 (by omega)]
  · rw [k1.2 q k (by omega) (by omega) (by omega), j3, f56.2.1 q k (by omega) (by omega), d3.2.2.2, c6.2.2.2.1 q k (by omega) (by omega), b3.2.2.2, a6.2.2.2.1 q k (by omega) (by omega)]
  · have i4 : am_Rn L xs (d + 6) 119 59 [.ref 121, .int 80] [] (mk s5) Q = _ := i4 Q
    have j4 : am_Rn L xs (d + 6) 119 103 [.ref 121, .int 0] [] (mk s6) Q = _ := j4 Q
    have k4 : am_Rn L xs (d + 6) 119 131 [.ref 121, .int 0] [] (mk s7) Q = _ := k4 Q
    have a7 : ∀ Q : Option Value → am_S → Prop, am_Call L xs (d + 5) 94 [.ref 121, .int 0, .int 1] (mk s) Q = Q none (mk s1) := a7
    have b4 : ∀ Q : Option Value → am_S → Prop, am_Call L xs (d + 5) 108 [.ref 121, .int 2] (mk s1) Q = Q none (mk s2) := b4
    have c7 : ∀ Q : Option Value → am_S → Prop, am_Call L xs (d + 5) 94 [.ref 121, .int 0, .int 2] (mk s2) Q = Q none (mk s3) := c7
    have d4 : ∀ Q : Option Value → am_S → Prop, am_Call L xs (d + 5) 108 [.ref 121, .int 3] (mk s3) Q = Q none (mk s4) := d4
    have g4 : ∀ Q : Option Value → am_S → Prop, am_Call L xs (d + 5) 113 [.ref 121, .int 0] (mk s4) Q = Q none (mk s5) := g4
    have z1 : am_in 0 4 = true := by decide
    have z2 : (0 : Int32).toNatClampNeg = 0 := rfl
    have y1 : am_in 1 4 = true := by decide
    have y2 : (1 : Int32).toNatClampNeg = 1 := rfl
    have w1 : am_in 2 4 = true := by decide
    have w2 : (2 : Int32).toNatClampNeg = 2 := rfl
    have u0 : ¬ nI t.1 = 0 := nI_ne0 (by omega) (by omega)
    have u1 : ¬ nI wa.1 = 0 := nI_ne0 (by omega) (by omega)
    have u2 : ¬ nI wb.1 = 0 := nI_ne0 (by omega) (by omega)
    have S0 : am_Call L xs (d + 6) 119 [.ref 121] (mk s) Q = am_Rn L xs (d + 6) 119 59 [.ref 121, .int 80] [] (mk s5) Q := by
      simp only [e119, r119_0, r119_1, r119_4, r119_5, r119_6, r119_9, r119_10, r119_13, r119_14, r119_15, r119_18, r119_19, r119_22, r119_23, r119_24, r119_29, r119_30, r119_31, r119_32, r119_35, r119_36, r119_37, r119_40, r119_41, r119_42, r119_43, r119_46, r119_47, r119_48, r119_51, r119_52, r119_53, r119_56, r119_58, am_li0, am_liS, am_laR0, am_tN, m_oc, g121_0, a122, t0.1, t1.1, t2.1, z1, z2, y1, y2, w1, w2, u0, u1, u2, a7, b4, c7, d4, g4, not_false_eq_true, if_true, if_false, am_okI, am_okR, List.length_cons, List.length_nil, List.set_cons_succ, List.set_cons_zero, Nat.reduceAdd, Nat.reduceLT, Nat.zero_le, Nat.reduceLeDiff, and_true, true_and]
    rw [S0, i4, ← k4]
    simp only [r119_101, r119_102, List.length_cons, List.length_nil, List.set_cons_succ, List.set_cons_zero, Nat.reduceAdd, Nat.reduceLT, true_and]
    rw [j4]
    simp only [r119_129, r119_130, List.length_cons, List.length_nil, List.set_cons_succ, List.set_cons_zero, Nat.reduceAdd, Nat.reduceLT, true_and]
end
