/-! look, whole; the reference's share -/
theorem mT_K {s s' : St} {j : Nat} {t : Tr} (h : frK s s') (hm : mT s j t) : mT s' j t := mT_congr (fun q q1 q2 => h.1 q (by omega)) hm
theorem frK_refl (s : St) : frK s s := ⟨fun _ _ => rfl, rfl⟩
theorem frK_trans {s s' s'' : St} (h : frK s s') (h' : frK s' s'') : frK s s'' := ⟨fun q hq => (h'.1 q hq).trans (h.1 q hq), h'.2.trans h.2⟩
section
variable {L : Nat} {xs : Nat → Int32} {d : Nat}
/-- one cell of look -/
theorem m_lk_cell {j j' : Nat} {t w : Tr} {s : St} (h : j < 3) (h' : j' < 3) (hm : mT s j t) (hm' : mT s j' w) (hw : tW t) (hw' : tW w) (hj : s.2.1 121 16 = nI j) (hj' : s.2.1 121 17 = nI j') {a k : Nat} (ha : a < 12) (hk : k < 12) (h1 : s.1 131 a = nI (cB t a k)) (h2 : s.1 132 a = nI (cB w a k)) :
    ∃ s' : St, frK s s' ∧ s'.1 129 = upd (s.1 129) (12 * a + k) (bI (LF t a k)) ∧ s'.1 130 = upd (s.1 130) (12 * a + k) (bI (LF w a k)) ∧ s'.1 131 = upd (s.1 131) a (nI (cB t a (k + 1))) ∧ s'.1 132 = upd (s.1 132) a (nI (cB w a (k + 1))) ∧ s'.1 133 = s.1 133 ∧
    ∀ Q : Option Value → am_S → Prop, am_Rn L xs (d + 1) 96 62 [.ref 121, .int (nI a), .int (nI k)] [] (mk s) Q = am_Rn L xs (d + 1) 96 56 [.ref 121, .int (nI a), .int (nI (k + 1))] [] (mk s') Q := by
  have a1 : am_in (nI a) 12 = true := in_of ha (by decide)
  have a2 : (nI a).toNatClampNeg = a := nI_clamp (by omega)
  have e1 : (12 : Int32) * nI a + nI k = nI (12 * a + k) := by
    show nI 12 * nI a + nI k = _
    rw [pk_mul, nI_add]
  have k1 : am_in (nI (12 * a + k)) 144 = true := in_of (by omega) (by decide)
  have k2 : (nI (12 * a + k)).toNatClampNeg = 12 * a + k := nI_clamp (by omega)
  generalize hs1 : ((va_up s.1 129 (upd (s.1 129) (12 * a + k) (bI (LF t a k))), s.2) : St) = s1
  have f1 : ∀ q, q ≠ 129 → s1.1 q = s.1 q := fun q hq => by rw [← hs1]; exact up_ne _ _ hq
  have f1' : s1.1 129 = upd (s.1 129) (12 * a + k) (bI (LF t a k)) := by rw [← hs1]; dsimp only; rw [up_same]
  have f1'' : s1.2 = s.2 := by rw [← hs1]
  generalize hs2 : ((va_up s1.1 130 (upd (s1.1 130) (12 * a + k) (bI (LF w a k))), s1.2) : St) = s2
  have f2 : ∀ q, q ≠ 130 → s2.1 q = s1.1 q := fun q hq => by rw [← hs2]; exact up_ne _ _ hq
  have f2' : s2.1 130 = upd (s1.1 130) (12 * a + k) (bI (LF w a k)) := by rw [← hs2]; dsimp only; rw [up_same]
  have f2'' : s2.2 = s1.2 := by rw [← hs2]
  generalize hs3 : ((va_up s2.1 131 (upd (s2.1 131) a (nI (cB t a (k + 1)))), s2.2) : St) = s3
  have f3 : ∀ q, q ≠ 131 → s3.1 q = s2.1 q := fun q hq => by rw [← hs3]; exact up_ne _ _ hq
  have f3' : s3.1 131 = upd (s2.1 131) a (nI (cB t a (k + 1))) := by rw [← hs3]; dsimp only; rw [up_same]
  have f3'' : s3.2 = s2.2 := by rw [← hs3]
  generalize hs4 : ((va_up s3.1 132 (upd (s3.1 132) a (nI (cB w a (k + 1)))), s3.2) : St) = s4
  have f4 : ∀ q, q ≠ 132 → s4.1 q = s3.1 q := fun q hq => by rw [← hs4]; exact up_ne _ _ hq
  have f4' : s4.1 132 = upd (s3.1 132) a (nI (cB w a (k + 1))) := by rw [← hs4]; dsimp only; rw [up_same]
  have f4'' : s4.2 = s3.2 := by rw [← hs4]
  refine ⟨s4, ⟨fun q hq => ?_, by rw [f4'', f3'', f2'', f1'']⟩, ?_, ?_, ?_, ?_, ?_, fun Q => ?_⟩
  · rw [f4 q (by omega), f3 q (by omega), f2 q (by omega), f1 q (by omega)]
  · rw [f4 129 (by omega), f3 129 (by omega), f2 129 (by omega), f1']
  · rw [f4 130 (by omega), f3 130 (by omega), f2', f1 130 (by omega)]
  · rw [f4 131 (by omega), f3', f2 131 (by omega), f1 131 (by omega)]
  · rw [f4', f3 132 (by omega), f2 132 (by omega), f1 132 (by omega)]
  · rw [f4 133 (by omega), f3 133 (by omega), f2 133 (by omega), f1 133 (by omega)]
  · have l2 := m_lk2 (L := L) (xs := xs) (d := d) (s := s1) (Q := Q) h' (mT_congr (fun q q1 q2 => f1 q (by omega)) hm') hw' (by rw [f1'']; exact hj') ha hk
    have g1 : s2.1 131 a = nI (cB t a k) := by rw [f2 131 (by omega), f1 131 (by omega)]; exact h1
    have g2 : s3.1 132 a = nI (cB w a k) := by rw [f3 132 (by omega), f2 132 (by omega), f1 132 (by omega)]; exact h2
    have g3 : s2.1 129 (12 * a + k) = bI (LF t a k) := by rw [f2 129 (by omega), f1', upd_s]
    have g4 : s3.1 130 (12 * a + k) = bI (LF w a k) := by rw [f3 130 (by omega), f2', upd_s]
    have b0 : bI false = 0 := rfl
    have b1 : bI true = 1 := rfl
    have n1 : ¬ (1 : Int32) = 0 := by decide
    have z0 : ∀ m : Nat, nI m + 0 = nI m := fun m => Int32.add_zero _
    have seg3 : am_Rn L xs (d + 1) 96 146 [.ref 121, .int (nI a), .int (nI k)] [] (mk s2) Q = am_Rn L xs (d + 1) 96 174 [.ref 121, .int (nI a), .int (nI k)] [] (mk s3) Q := by
      rw [← hs3]
      cases hb : LF t a k with
      | false =>
        rw [hb, b0] at g3
        have ec : nI (cB t a (k + 1)) = nI (cB t a k) := by rw [cB_s, hb]; rfl
        simp only [r96_146, r96_147, r96_150, r96_151, r96_152, r96_153, r96_154, r96_157, r96_159, r96_160, r96_161, r96_162, r96_163, r96_164, r96_171, r96_172, r96_173, am_li0, am_liS, am_laR0, g121_7, g121_9, a129, a131, w131, a1, a2, k1, k2, e1, g1, g3, ec, z0, am_okI, am_okR, Bool.and_self, if_true, true_and]
      | true =>
        rw [hb, b1] at g3
        have ec : nI (cB t a (k + 1)) = nI (cB t a k) + 1 := by rw [cB_s, hb]; exact (nI_1 _).symm
        simp only [r96_146, r96_147, r96_150, r96_151, r96_152, r96_153, r96_154, r96_157, r96_159, r96_160, r96_161, r96_162, r96_163, r96_164, r96_167, r96_168, r96_172, r96_173, am_li0, am_liS, am_laR0, g121_7, g121_9, a129, a131, w131, a1, a2, k1, k2, e1, g1, g3, ec, n1, am_okI, am_okR, Bool.and_self, if_false, true_and]
    have seg4 : am_Rn L xs (d + 1) 96 174 [.ref 121, .int (nI a), .int (nI k)] [] (mk s3) Q = am_Rn L xs (d + 1) 96 202 [.ref 121, .int (nI a), .int (nI k)] [] (mk s4) Q := by
      rw [← hs4]
      cases hb : LF w a k with
      | false =>
        rw [hb, b0] at g4
        have ec : nI (cB w a (k + 1)) = nI (cB w a k) := by rw [cB_s, hb]; rfl
        simp only [r96_174, r96_175, r96_178, r96_179, r96_180, r96_181, r96_182, r96_185, r96_187, r96_188, r96_189, r96_190, r96_191, r96_192, r96_199, r96_200, r96_201, am_li0, am_liS, am_laR0, g121_8, g121_10, a130, a132, w132, a1, a2, k1, k2, e1, g2, g4, ec, z0, am_okI, am_okR, Bool.and_self, if_true, true_and]
      | true =>
        rw [hb, b1] at g4
        have ec : nI (cB w a (k + 1)) = nI (cB w a k) + 1 := by rw [cB_s, hb]; exact (nI_1 _).symm
        simp only [r96_174, r96_175, r96_178, r96_179, r96_180, r96_181, r96_182, r96_185, r96_187, r96_188, r96_189, r96_190, r96_191, r96_192, r96_195, r96_196, r96_200, r96_201, am_li0, am_liS, am_laR0, g121_8, g121_10, a130, a132, w132, a1, a2, k1, k2, e1, g2, g4, ec, n1, am_okI, am_okR, Bool.and_self, if_false, true_and]
    rw [m_lk1 (L := L) (xs := xs) (d := d) (Q := Q) h hm hw hj ha hk]
    have e103 : am_Rn L xs (d + 1) 96 103 [.ref 121, .int (nI a), .int (nI k)] [.int (bI (LF t a k)), .int (nI (12 * a + k)), .ref 129] (mk s) Q = am_Rn L xs (d + 1) 96 104 [.ref 121, .int (nI a), .int (nI k)] [] (mk s1) Q := by
      rw [← hs1]
      simp only [r96_103, w129, k1, k2, nb_bI, true_and]
    have e145 : am_Rn L xs (d + 1) 96 145 [.ref 121, .int (nI a), .int (nI k)] [.int (bI (LF w a k)), .int (nI (12 * a + k)), .ref 130] (mk s1) Q = am_Rn L xs (d + 1) 96 146 [.ref 121, .int (nI a), .int (nI k)] [] (mk s2) Q := by
      rw [← hs2]
      simp only [r96_145, w130, k1, k2, nb_bI, true_and]
    rw [e103, l2, e145, seg3, seg4]
    simp only [r96_202, r96_205, am_li0, am_liS, nI_1, List.set_cons_succ, List.set_cons_zero]
theorem m_lk_row {j j' : Nat} {t w : Tr} {H : Nat → Nat} (h : j < 3) (h' : j' < 3) (hw : tW t) (hw' : tW w) {a : Nat} (ha : a < 12) : ∀ (m k : Nat) (s : St), 12 - k = m → k ≤ 12 → mT s j t → mT s j' w → s.2.1 121 16 = nI j → s.2.1 121 17 = nI j' → lkI t w H a k s → s.1 131 a = nI (cB t a k) → s.1 132 a = nI (cB w a k) → s.1 133 a = nI (tal t H a) →
    ∃ s' : St, frK s s' ∧ lkI t w H (a + 1) 0 s' ∧ ∀ Q : Option Value → am_S → Prop, am_Rn L xs (d + 1) 96 56 [.ref 121, .int (nI a), .int (nI k)] [] (mk s) Q = am_Rn L xs (d + 1) 96 208 [.ref 121, .int (nI a), .int (nI 12)] [] (mk s') Q
  | 0, k, s, hm, hk, q1, q2, q3, q4, hI, c1, c2, c3 => by
    have e : k = 12 := by omega
    subst e
    refine ⟨s, frK_refl s, ⟨fun x y hx hy hq => hI.1 x y hx hy (by omega), fun x hx => ?_⟩, fun Q => ?_⟩
    · by_cases e : x = a
      · rw [e]; exact ⟨c1, c2, c3⟩
      · exact hI.2 x (by omega)
    · have h1 : (12 : Int32) ≤ nI 12 := by decide
      rw [r96_56]
      simp only [r96_57, r96_59, am_li0, am_liS, h1, if_true]
  | m + 1, k, s, hm, hk, q1, q2, q3, q4, hI, c1, c2, c3 => by
    obtain ⟨s1, f1, g1, g2, g3, g4, g5, hr⟩ := m_lk_cell (L := L) (xs := xs) (d := d) h h' q1 q2 hw hw' q3 q4 ha (show k < 12 by omega) c1 c2
    obtain ⟨s2, f2, hI2, hr2⟩ := m_lk_row (H := H) h h' hw hw' ha m (k + 1) s1 (by omega) (by omega) (mT_K f1 q1) (mT_K f1 q2) (by rw [f1.2]; exact q3) (by rw [f1.2]; exact q4) (by
      refine ⟨fun x y hx hy hq => ?_, fun x hx => ?_⟩
      · rw [g1, g2]
        by_cases e : 12 * x + y = 12 * a + k
        · have ex : x = a := by omega
          have ey : y = k := by omega
          rw [ex, ey, upd_s, upd_s]
          exact ⟨rfl, rfl⟩
        · rw [upd_n _ _ e, upd_n _ _ e]
          exact hI.1 x y hx hy (by omega)
      · rw [g3, g4, g5, upd_n _ _ (by omega), upd_n _ _ (by omega)]
        exact hI.2 x hx) (by rw [g3, upd_s]) (by rw [g4, upd_s]) (by rw [g5]; exact c3)
    refine ⟨s2, frK_trans f1 f2, hI2, fun Q => ?_⟩
    have h1 : ¬ (12 : Int32) ≤ nI k := nI_ge (b := 12) (by omega) (by decide)
    rw [← hr2 Q, ← hr Q, r96_56]
    simp only [r96_57, r96_59, am_li0, am_liS, h1, if_false]
theorem m_lk_out {j j' : Nat} {t w : Tr} {H : Nat → Nat} (h : j < 3) (h' : j' < 3) (hw : tW t) (hw' : tW w) (hH : hP t H) : ∀ (m a : Nat) (s : St) (v2 : Value), 12 - a = m → a ≤ 12 → mT s j t → mT s j' w → s.2.1 121 16 = nI j → s.2.1 121 17 = nI j' → lkI t w H a 0 s →
    ∃ s' : St, frK s s' ∧ lkI t w H 12 0 s' ∧ ∀ Q : Option Value → am_S → Prop, am_Rn L xs (d + 3) 96 2 [.ref 121, .int (nI a), v2] [] (mk s) Q = Q none (mk s')
  | 0, a, s, v2, hm, ha, q1, q2, q3, q4, hI => by
    have e : a = 12 := by omega
    subst e
    refine ⟨s, frK_refl s, hI, fun Q => ?_⟩
    have h1 : (12 : Int32) ≤ nI 12 := by decide
    rw [r96_2]
    simp only [r96_3, r96_5, r96_214, am_li0, am_liS, h1, if_true]
  | m + 1, a, s, v2, hm, ha, q1, q2, q3, q4, hI => by
    have h12 := hw.1
    have a1 : am_in (nI a) 12 = true := in_of (by omega) (by decide)
    have a2 : (nI a).toNatClampNeg = a := nI_clamp (by omega)
    have h2 : am_in (nI j) 4 = true := in_of (by omega) (by decide)
    have h3 : (nI j).toNatClampNeg = j := nI_clamp (by omega)
    have h1 : ¬ (12 : Int32) ≤ nI a := nI_ge (b := 12) (by omega) (by decide)
    generalize hs1 : ((va_up (va_up s.1 131 (upd (s.1 131) a 0)) 132 (upd (s.1 132) a 0), s.2) : St) = s1
    have f1 : ∀ q, q ≠ 131 → q ≠ 132 → s1.1 q = s.1 q := fun q n1 n2 => by rw [← hs1]; dsimp only; rw [up_ne _ _ n2, up_ne _ _ n1]
    have f1a : s1.1 131 = upd (s.1 131) a 0 := by rw [← hs1]; dsimp only; rw [up_ne _ _ (by omega), up_same]
    have f1b : s1.1 132 = upd (s.1 132) a 0 := by rw [← hs1]; dsimp only; rw [up_same]
    have f1c : s1.2 = s.2 := by rw [← hs1]
    generalize hs2 : ((va_up s1.1 133 (upd (s1.1 133) a (nI (tal t H a))), s1.2) : St) = s2
    have f2 : ∀ q, q ≠ 133 → s2.1 q = s1.1 q := fun q n1 => by rw [← hs2]; dsimp only; rw [up_ne _ _ n1]
    have f2a : s2.1 133 = upd (s1.1 133) a (nI (tal t H a)) := by rw [← hs2]; dsimp only; rw [up_same]
    have f2b : s2.2 = s1.2 := by rw [← hs2]
    have fk : frK s s2 := ⟨fun q hq => by rw [f2 q (by omega), f1 q (by omega) (by omega)], by rw [f2b, f1c]⟩
    have m1 : mT s1 j t := mT_congr (fun q q1 q2 => f1 q (by omega) (by omega)) q1
    obtain ⟨s3, f3, hI3, hr3⟩ := m_lk_row (L := L) (xs := xs) (d := d + 2) (H := H) h h' hw hw' (show a < 12 by omega) 12 0 s2 rfl (by omega) (mT_K fk q1) (mT_K fk q2) (by rw [fk.2]; exact q3) (by rw [fk.2]; exact q4) (by
      refine ⟨fun x y hx hy hq => ?_, fun x hx => ?_⟩
      · rw [f2 129 (by omega), f2 130 (by omega), f1 129 (by omega) (by omega), f1 130 (by omega) (by omega)]
        exact hI.1 x y hx hy (by omega)
      · rw [f2 131 (by omega), f2 132 (by omega), f1a, f1b, f2a, f1 133 (by omega) (by omega), upd_n _ _ (by omega), upd_n _ _ (by omega), upd_n _ _ (by omega)]
        exact hI.2 x hx) (by rw [f2 131 (by omega), f1a, upd_s]; rfl) (by rw [f2 132 (by omega), f1b, upd_s]; rfl) (by rw [f2a, upd_s])
    obtain ⟨s4, f4, hI4, hr4⟩ := m_lk_out h h' hw hw' hH m (a + 1) s3 (.int (nI 12)) (by omega) (by omega) (mT_K f3 (mT_K fk q1)) (mT_K f3 (mT_K fk q2)) (by rw [f3.2, fk.2]; exact q3) (by rw [f3.2, fk.2]; exact q4) hI3
    refine ⟨s4, frK_trans fk (frK_trans f3 f4), hI4, fun Q => ?_⟩
    rw [← hr4 Q]
    have hr3' : am_Rn L xs (d + 3) 96 56 [.ref 121, .int (nI a), .int 0] [] (mk s2) Q = _ := hr3 Q
    have e208 : am_Rn L xs (d + 3) 96 208 [.ref 121, .int (nI a), .int (nI 12)] [] (mk s3) Q = am_Rn L xs (d + 3) 96 2 [.ref 121, .int (nI (a + 1)), .int (nI 12)] [] (mk s3) Q := by
      simp only [r96_208, r96_211, am_li0, am_liS, nI_1, List.set_cons_succ, List.set_cons_zero]
    rw [← e208, ← hr3', r96_2]
    have x1 : va_up s.1 131 (upd (s.1 131) a 0) 132 = s.1 132 := up_ne _ _ (by omega)
    have e53 : am_Rn L xs (d + 3) 96 53 [.ref 121, .int (nI a), v2] [.int (nI (tal t H a)), .int (nI a), .ref 133] (mk s1) Q = am_Rn L xs (d + 3) 96 56 [.ref 121, .int (nI a), .int 0] [] (mk s2) Q := by
      rw [← hs2]
      simp only [r96_53, r96_54, r96_55, w133, a1, a2, List.length_cons, List.length_nil, List.set_cons_succ, List.set_cons_zero, Nat.reduceAdd, Nat.reduceLT, true_and]
    rw [← e53]
    have q3' : s1.2.1 121 16 = nI j := by rw [f1c]; exact q3
    by_cases hat : a < t.1
    · have h4 : ¬ nI t.1 ≤ nI a := nI_ge hat (by omega)
      have et : tal t H a = H a := if_pos hat
      have hh := fun Q => m_height1 (L := L) (xs := xs) (d := d) (s := s1) (Q := Q) h m1 hw hH hat
      rw [et]
      simp only [r96_3, r96_5, r96_8, r96_9, r96_12, r96_13, r96_14, r96_15, r96_16, r96_19, r96_20, r96_21, am_li0, am_liS, am_laR0, g121_9, g121_10, w131, w132, a1, a2, h1, x1, hs1, if_false, true_and]
      simp only [r96_22, r96_23, r96_26, r96_27, r96_28, r96_29, r96_32, r96_33, r96_36, r96_37, r96_40, r96_41, r96_42, r96_45, r96_46, r96_49, am_li0, am_liS, am_laR0, m_oc, g121_0, g121_11, g121_16, a122, q3', h2, h3, h4, m1.1, hh, am_tL, am_okI, if_false, List.length_cons, List.length_nil, Nat.reduceAdd, Nat.reduceLeDiff, and_true, true_and]
    · have h4 : nI t.1 ≤ nI a := nI_le (by omega) (by omega)
      have et : tal t H a = 0 := if_neg hat
      have et' : nI (tal t H a) = 0 := by rw [et]; rfl
      rw [et']
      simp only [r96_3, r96_5, r96_8, r96_9, r96_12, r96_13, r96_14, r96_15, r96_16, r96_19, r96_20, r96_21, am_li0, am_liS, am_laR0, g121_9, g121_10, w131, w132, a1, a2, h1, x1, hs1, if_false, true_and]
      simp only [r96_22, r96_23, r96_26, r96_27, r96_28, r96_29, r96_32, r96_33, r96_36, r96_37, r96_52, am_li0, am_liS, am_laR0, g121_0, g121_11, g121_16, a122, q3', h2, h3, h4, m1.1, if_true, true_and]
theorem m_look {j j' : Nat} {t w : Tr} {H : Nat → Nat} {s : St} (h : j < 3) (h' : j' < 3) (hw : tW t) (hw' : tW w) (hH : hP t H) (q1 : mT s j t) (q2 : mT s j' w) (q3 : s.2.1 121 16 = nI j) (q4 : s.2.1 121 17 = nI j') :
    ∃ s' : St, frK s s' ∧ lkI t w H 12 0 s' ∧ ∀ Q : Option Value → am_S → Prop, am_Call L xs (d + 3) 96 [.ref 121] (mk s) Q = Q none (mk s') := by
  obtain ⟨s', f, hI, hr⟩ := m_lk_out (L := L) (xs := xs) (d := d) h h' hw hw' hH 12 0 s (.retAddr 0) rfl (by omega) q1 q2 q3 q4 ⟨fun x y _ _ hq => by omega, fun x hx => by omega⟩
  refine ⟨s', f, hI, fun Q => ?_⟩
  rw [← hr Q]
  simp only [e96, r96_0, r96_1, List.length_cons, List.length_nil, List.set_cons_succ, List.set_cons_zero, Nat.reduceAdd, Nat.reduceLT, true_and]
  rfl
end
/-- what the reference has looked up before it joins -/
def mL (s : St) (j j' : Nat) (t w : Tr) (H : Nat → Nat) : Prop := j < 3 ∧ j' < 3 ∧ mT s j t ∧ mT s j' w ∧ s.2.1 121 16 = nI j ∧ s.2.1 121 17 = nI j' ∧ hP t H ∧ lkI t w H 12 0 s
section
variable {L : Nat} {xs : Nat → Int32} {d : Nat} {s : St} {Q : Option Value → am_S → Prop}
theorem m_share_loop {j j' : Nat} {t w : Tr} {H : Nat → Nat} {M : Pr} (hL : mL s j j' t w H) (hw : tW t) (hw' : tW w) (hM : pM (s.1 126) (s.1 127) M) (hp : pW t w M) {x y : Nat} (hx : x < t.1) (hy : y < w.1) : ∀ (m i : Nat), t.1 - i = m → i ≤ t.1 →
    am_Rn L xs d 99 7 [.ref 121, .int (nI x), .int (nI y), .int (nI (sh t w M.1 x y i)), .int (nI i)] [] (mk s) Q = Q (some (.int (nI (sh t w M.1 x y t.1)))) (mk s) := by
  obtain ⟨h, h', m1, m2, q1, q2, -, hI⟩ := hL
  have h12 := hw.1
  have h12' := hw'.1
  have n1 : ¬ (1 : Int32) = 0 := by decide
  have b0 : bI false = 0 := rfl
  have b1 : bI true = 1 := rfl
  have h2 : am_in (nI j) 4 = true := in_of (by omega) (by decide)
  have h3 : (nI j).toNatClampNeg = j := nI_clamp (by omega)
  have z0 : ∀ m : Nat, nI m + 0 = nI m := fun m => Int32.add_zero _
  intro m
  induction m with
  | zero =>
    intro i hm hi
    have e : i = t.1 := by omega
    subst e
    have h1 : nI t.1 ≤ nI t.1 := nI_le (Nat.le_refl _) (by omega)
    rw [r99_7]
    simp only [r99_9, r99_10, r99_13, r99_14, r99_17, r99_18, r99_80, r99_81, am_li0, am_liS, am_laR0, g121_0, g121_16, a122, q1, h2, h3, m1.1, h1, if_true, true_and]
  | succ m ih =>
    intro i hm hi
    have h1 : ¬ nI t.1 ≤ nI i := nI_ge (by omega) (by omega)
    have i1 : am_in (nI i) 12 = true := in_of (by omega) (by decide)
    have i2 : (nI i).toNatClampNeg = i := nI_clamp (by omega)
    have em := (hM i (by omega)).1
    have ih := ih (i + 1) (by omega) (by omega)
    rw [r99_7]
    cases hv : M.1 i with
    | none =>
      have es : sh t w M.1 x y (i + 1) = sh t w M.1 x y i := by
        rw [sh_s, if_neg]
        · rfl
        · unfold shB
          rw [hv]; exact Bool.false_ne_true
      rw [es] at ih
      rw [hv, oI_none] at em
      have m1l : (-1 : Int32) < 0 := by decide
      simp only [r99_9, r99_10, r99_13, r99_14, r99_17, r99_18, r99_21, r99_22, r99_23, r99_26, r99_28, r99_29, r99_71, r99_72, r99_73, r99_74, r99_77, am_li0, am_liS, am_laR0, g121_0, g121_4, g121_16, a122, a126, q1, h2, h3, i1, i2, m1.1, h1, em, m1l, z0, nI_1, if_true, if_false, List.length_cons, List.length_nil, List.set_cons_succ, List.set_cons_zero, Nat.reduceAdd, Nat.reduceLT, true_and]
      exact ih
    | some v =>
      have hv12 := (hp.1 i v hv).2
      rw [hv, oI_some] at em
      have ne : ¬ nI v < 0 := nI_pos (by omega)
      have e1 : (12 : Int32) * nI x + nI i = nI (12 * x + i) := by
        show nI 12 * nI x + nI i = _
        rw [pk_mul, nI_add]
      have e2 : (12 : Int32) * nI y + nI v = nI (12 * y + v) := by
        show nI 12 * nI y + nI v = _
        rw [pk_mul, nI_add]
      have k1 : am_in (nI (12 * x + i)) 144 = true := in_of (by omega) (by decide)
      have k2 : (nI (12 * x + i)).toNatClampNeg = 12 * x + i := nI_clamp (by omega)
      have k3 : am_in (nI (12 * y + v)) 144 = true := in_of (by omega) (by decide)
      have k4 : (nI (12 * y + v)).toNatClampNeg = 12 * y + v := nI_clamp (by omega)
      have l1 : s.1 129 (12 * x + i) = bI (bl t x i) := by
        rw [(hI.1 x i (by omega) (by omega) (by omega)).1]
        unfold LF
        rw [decide_eq_true (by omega), Bool.true_and]
      have l2 : s.1 130 (12 * y + v) = bI (bl w y v) := by
        rw [(hI.1 y v (by omega) (by omega) (by omega)).2]
        unfold LF
        rw [decide_eq_true hv12, Bool.true_and]
      cases hb : bl t x i with
      | false =>
        have es : sh t w M.1 x y (i + 1) = sh t w M.1 x y i := by
          rw [sh_s, if_neg]
          · rfl
          · unfold shB
            rw [hv, hb]; exact Bool.false_ne_true
        rw [es] at ih
        rw [hb, b0] at l1
        simp only [r99_9, r99_10, r99_13, r99_14, r99_17, r99_18, r99_21, r99_22, r99_23, r99_26, r99_28, r99_29, r99_32, r99_33, r99_36, r99_38, r99_39, r99_40, r99_42, r99_43, r99_44, r99_71, r99_72, r99_73, r99_74, r99_77, am_li0, am_liS, am_laR0, g121_0, g121_4, g121_7, g121_16, a122, a126, a129, q1, h2, h3, i1, i2, k1, k2, e1, m1.1, h1, em, ne, l1, z0, nI_1, if_true, if_false, List.length_cons, List.length_nil, List.set_cons_succ, List.set_cons_zero, Nat.reduceAdd, Nat.reduceLT, true_and]
        exact ih
      | true =>
        rw [hb, b1] at l1
        cases hb2 : bl w y v with
        | false =>
          have es : sh t w M.1 x y (i + 1) = sh t w M.1 x y i := by
            rw [sh_s, if_neg]
            · rfl
            · unfold shB
              rw [hv]
              dsimp only
              rw [hb, hb2]; exact Bool.false_ne_true
          rw [es] at ih
          rw [hb2, b0] at l2
          simp only [r99_9, r99_10, r99_13, r99_14, r99_17, r99_18, r99_21, r99_22, r99_23, r99_26, r99_28, r99_29, r99_32, r99_33, r99_36, r99_38, r99_39, r99_40, r99_42, r99_43, r99_44, r99_47, r99_48, r99_51, r99_53, r99_54, r99_55, r99_56, r99_59, r99_61, r99_62, r99_63, r99_64, r99_71, r99_72, r99_73, r99_74, r99_77, am_li0, am_liS, am_laR0, g121_0, g121_4, g121_7, g121_8, g121_16, a122, a126, a129, a130, q1, h2, h3, i1, i2, k1, k2, k3, k4, e1, e2, m1.1, h1, em, ne, l1, l2, n1, z0, nI_1, if_true, if_false, List.length_cons, List.length_nil, List.set_cons_succ, List.set_cons_zero, Nat.reduceAdd, Nat.reduceLT, true_and]
          exact ih
        | true =>
          have es : sh t w M.1 x y (i + 1) = sh t w M.1 x y i + 1 := by
            rw [sh_s, if_pos]
            unfold shB
            rw [hv]
            dsimp only
            rw [hb, hb2]; rfl
          rw [es] at ih
          rw [hb2, b1] at l2
          simp only [r99_9, r99_10, r99_13, r99_14, r99_17, r99_18, r99_21, r99_22, r99_23, r99_26, r99_28, r99_29, r99_32, r99_33, r99_36, r99_38, r99_39, r99_40, r99_42, r99_43, r99_44, r99_47, r99_48, r99_51, r99_53, r99_54, r99_55, r99_56, r99_59, r99_61, r99_62, r99_63, r99_64, r99_67, r99_68, r99_72, r99_73, r99_74, r99_77, am_li0, am_liS, am_laR0, g121_0, g121_4, g121_7, g121_8, g121_16, a122, a126, a129, a130, q1, h2, h3, i1, i2, k1, k2, k3, k4, e1, e2, m1.1, h1, em, ne, l1, l2, n1, nI_1, if_true, if_false, List.length_cons, List.length_nil, List.set_cons_succ, List.set_cons_zero, Nat.reduceAdd, Nat.reduceLT, true_and]
          exact ih
theorem m_share {j j' : Nat} {t w : Tr} {H : Nat → Nat} {M : Pr} (hL : mL s j j' t w H) (hw : tW t) (hw' : tW w) (hM : pM (s.1 126) (s.1 127) M) (hp : pW t w M) {x y : Nat} (hx : x < t.1) (hy : y < w.1) :
    am_Call L xs d 99 [.ref 121, .int (nI x), .int (nI y)] (mk s) Q = Q (some (.int (nI (sh t w M.1 x y t.1)))) (mk s) := by
  have hl := m_share_loop (L := L) (xs := xs) (d := d) (Q := Q) hL hw hw' hM hp hx hy (t.1 - (x + 1)) (x + 1) rfl (by omega)
  rw [sh_0 t w M.1 x y (x + 1) (Nat.le_refl _)] at hl
  have hl : am_Rn L xs d 99 7 [.ref 121, .int (nI x), .int (nI y), .int 0, .int (nI (x + 1))] [] (mk s) Q = _ := hl
  simp only [e99, r99_0, r99_1, r99_2, r99_3, r99_4, r99_5, am_li0, am_liS, nI_1, List.length_cons, List.length_nil, List.set_cons_succ, List.set_cons_zero, Nat.reduceAdd, Nat.reduceLT, true_and]
  exact hl
end
