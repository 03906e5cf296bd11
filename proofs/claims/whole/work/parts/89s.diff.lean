/-! copyFrom; diff, partner, step, count on both sides -/
section
variable {L : Nat} {xs : Nat → Int32} {d : Nat} {s : St}
theorem mk_arr {p n : Nat} (h : in_sk[p]? = some (.inl (0, n))) : (mk s)[p]? = some (.inl (0, (n, .inl (s.1 p)))) := am_mk_at h
theorem mk_set {p n : Nat} {g : Nat → Int32} (h : in_sk[p]? = some (.inl (0, n))) : (mk s).set p (.inl (0, (n, .inl g))) = mk (va_up s.1 p g, s.2) := am_mk_A h
theorem cpy_lt {f g : Nat → Int32} {u k : Nat} (h : k < u) : va_cpy f g 0 0 u k = f k := by
  unfold va_cpy
  rw [if_pos ⟨Nat.zero_le _, by omega⟩, Nat.zero_add, Nat.sub_zero]
theorem cpy_ge {f g : Nat → Int32} {u k : Nat} (h : u ≤ k) : va_cpy f g 0 0 u k = g k := by
  unfold va_cpy
  rw [if_neg (by omega)]
theorem c_copyFrom {p q np nq u : Nat} (hP' : isF p np) (hQ' : isF q nq) (hn : np < 2 ^ 31) (hu : s.2.1 q 4 = nI u) (h1 : u ≤ nq) (h2 : u ≤ np) (hd : p + 5 ≤ q ∨ q + 5 ≤ p) :
    ∃ s' : St, s'.2.1 p 4 = nI u ∧ (∀ k, k < u → s'.1 (p + 1) k = s.1 (q + 1) k ∧ s'.1 (p + 2) k = s.1 (q + 2) k ∧ s'.1 (p + 3) k = s.1 (q + 3) k ∧ s'.1 (p + 4) k = s.1 (q + 4) k) ∧ (∀ k, u ≤ k → k < np → s'.1 (p + 1) k = -2) ∧ frF p s s' ∧ ∀ Q : Option Value → am_S → Prop, am_Call L xs (d + 2) 23 [.ref p, .ref q] (mk s) Q = Q none (mk s') := by
  generalize hs1 : ((va_up s.1 (p + 1) (fil np (-2) (s.1 (p + 1))), am_u2 s.2.1 p 4 0, s.2.2) : St) = s1
  generalize hs2 : w2 s1 p 4 (nI u) = s2
  have a1 : ∀ r, r ≠ p + 1 → s2.1 r = s.1 r := fun r hr => by rw [← hs2, w2_1, ← hs1]; exact up_ne _ _ hr
  have a2 : s2.1 (p + 1) = fil np (-2) (s.1 (p + 1)) := by rw [← hs2, w2_1, ← hs1]; exact up_same _ _ _
  have a3 : s2.2.1 p 4 = nI u := by rw [← hs2, w2_a]
  have a4 : ∀ r k, ¬ (r = p ∧ k = 4) → s2.2.1 r k = s.2.1 r k := fun r k hr => by rw [← hs2, w2_o _ _ hr, ← hs1]; exact u2_ne _ _ hr
  have a5 : s2.2.2 = s.2.2 := by rw [← hs2, w2_g, ← hs1]
  generalize hs3 : ((va_up s2.1 (p + 1) (va_cpy (s2.1 (q + 1)) (s2.1 (p + 1)) 0 0 u), s2.2) : St) = s3
  generalize hs4 : ((va_up s3.1 (p + 2) (va_cpy (s3.1 (q + 2)) (s3.1 (p + 2)) 0 0 u), s3.2) : St) = s4
  generalize hs5 : ((va_up s4.1 (p + 3) (va_cpy (s4.1 (q + 3)) (s4.1 (p + 3)) 0 0 u), s4.2) : St) = s5
  generalize hs6 : ((va_up s5.1 (p + 4) (va_cpy (s5.1 (q + 4)) (s5.1 (p + 4)) 0 0 u), s5.2) : St) = s6
  have b3 : ∀ r, r ≠ p + 1 → s3.1 r = s2.1 r := fun r hr => by rw [← hs3]; exact up_ne _ _ hr
  have b4 : ∀ r, r ≠ p + 2 → s4.1 r = s3.1 r := fun r hr => by rw [← hs4]; exact up_ne _ _ hr
  have b5 : ∀ r, r ≠ p + 3 → s5.1 r = s4.1 r := fun r hr => by rw [← hs5]; exact up_ne _ _ hr
  have b6 : ∀ r, r ≠ p + 4 → s6.1 r = s5.1 r := fun r hr => by rw [← hs6]; exact up_ne _ _ hr
  have c3 : s3.1 (p + 1) = va_cpy (s2.1 (q + 1)) (s2.1 (p + 1)) 0 0 u := by rw [← hs3]; exact up_same _ _ _
  have c4 : s4.1 (p + 2) = va_cpy (s3.1 (q + 2)) (s3.1 (p + 2)) 0 0 u := by rw [← hs4]; exact up_same _ _ _
  have c5 : s5.1 (p + 3) = va_cpy (s4.1 (q + 3)) (s4.1 (p + 3)) 0 0 u := by rw [← hs5]; exact up_same _ _ _
  have c6 : s6.1 (p + 4) = va_cpy (s5.1 (q + 4)) (s5.1 (p + 4)) 0 0 u := by rw [← hs6]; exact up_same _ _ _
  have d3 : s3.2 = s2.2 := by rw [← hs3]
  have d4 : s4.2 = s2.2 := by rw [← hs4, d3]
  have d5 : s5.2 = s2.2 := by rw [← hs5, d4]
  have d6 : s6.2 = s2.2 := by rw [← hs6, d5]
  refine ⟨s6, by rw [d6]; exact a3, fun k hk => ⟨?_, ?_, ?_, ?_⟩, fun k k1 k2 => ?_, ⟨fun r hr => ?_, fun r k hr => ?_, ?_⟩, fun Q => ?_⟩
  · rw [b6 _ (by omega), b5 _ (by omega), b4 _ (by omega), c3, cpy_lt hk, a1 _ (by omega)]
  · rw [b6 _ (by omega), b5 _ (by omega), c4, cpy_lt hk, b3 _ (by omega), a1 _ (by omega)]
  · rw [b6 _ (by omega), c5, cpy_lt hk, b4 _ (by omega), b3 _ (by omega), a1 _ (by omega)]
  · rw [c6, cpy_lt hk, b5 _ (by omega), b4 _ (by omega), b3 _ (by omega), a1 _ (by omega)]
  · rw [b6 _ (by omega), b5 _ (by omega), b4 _ (by omega), c3, cpy_ge k1, a2]
    exact if_pos k2
  · rw [b6 _ (by omega), b5 _ (by omega), b4 _ (by omega), b3 _ (by omega), a1 _ (by omega)]
  · rw [d6, a4 r k hr]
  · rw [d6, a5]
  · have hmin : (if Int32.ofNat np < nI u then Int32.ofNat np else nI u) = nI u := if_neg (nI_nlt (show u ≤ np from h2) hn)
    have u0 : ¬ nI u < 0 := nI_pos (by omega)
    have u1 : (nI u).toNatClampNeg = u := nI_clamp (by omega)
    have z0 : (0 : Int32).toNatClampNeg = 0 := rfl
    have z1 : ¬ (0 : Int32) < 0 := by decide
    have hq1 : s1.2.1 q 4 = nI u := by rw [← hs1]; dsimp only; rw [u2_ne _ _ (by omega)]; exact hu
    have hc : ∀ {m : Nat}, u ≤ m → (([] : List Value).length ≤ 8 ∧ ¬ (0 : Int32) < 0 ∧ ¬ (0 : Int32) < 0 ∧ ¬ nI u < 0 ∧ (0 : Int32).toNatClampNeg + (nI u).toNatClampNeg ≤ nq ∧ (0 : Int32).toNatClampNeg + (nI u).toNatClampNeg ≤ np) := fun _ => ⟨by decide, z1, z1, u0, by rw [z0, u1]; omega, by rw [z0, u1]; omega⟩
    have g2 : s2.2.1 p 4 = nI u := a3
    have g3 : s3.2.1 p 4 = nI u := by rw [d3]; exact a3
    have g4 : s4.2.1 p 4 = nI u := by rw [d4]; exact a3
    have g5 : s5.2.1 p 4 = nI u := by rw [d5]; exact a3
    have w1' : ∀ Q : Option Value → am_S → Prop, am_Call L xs (d + 1) 15 [.ref p] (mk s) Q = Q none (mk s1) := fun Q => by rw [← hs1]; exact c_wipe hP' hn
    have fv' : ∀ {y o : Nat} {f : am_S → Prop}, am_wf y o (mk s1) p 1 4 (.int (nI u)) f = f (mk s2) := fun {y o f} => by rw [← hs2]; exact fv_used hP'
    simp only [e23, r23_0, r23_1, r23_4, r23_5, r23_6, r23_9, r23_10, r23_13, r23_14, r23_17, r23_20, r23_21, r23_24, r23_25, r23_26, r23_29, r23_30, r23_31, am_laR0, am_laS, am_tN, f_oc hP', w1', f_used hP', f_used hQ', f_par hP', f_par hQ', fl_par hP', hq1, hmin, fv', g2, am_okI, am_okR, List.length_cons, List.length_nil, Nat.reduceAdd, Nat.zero_le, Nat.reduceLeDiff, and_true, true_and]
    rw [r23_34 (mk_arr hQ'.2.1) (mk_arr hP'.2.1) (hc (Nat.le_refl u)), mk_set hP'.2.1, z0, u1, hs3]
    simp only [r23_37, r23_38, r23_41, r23_42, r23_43, r23_46, r23_47, r23_48, am_laR0, am_laS, f_used hP', f_pla hP', f_pla hQ', g3]
    rw [r23_51 (mk_arr hQ'.2.2.1) (mk_arr hP'.2.2.1) (hc (Nat.le_refl u)), mk_set hP'.2.2.1, z0, u1, hs4]
    simp only [r23_54, r23_55, r23_58, r23_59, r23_60, r23_63, r23_64, r23_65, am_laR0, am_laS, f_used hP', f_typ hP', f_typ hQ', g4]
    rw [r23_68 (mk_arr hQ'.2.2.2.1) (mk_arr hP'.2.2.2.1) (hc (Nat.le_refl u)), mk_set hP'.2.2.2.1, z0, u1, hs5]
    simp only [r23_71, r23_72, r23_75, r23_76, r23_77, r23_80, r23_81, r23_82, am_laR0, am_laS, f_used hP', f_lab hP', f_lab hQ', g5]
    rw [r23_85 (mk_arr hQ'.2.2.2.2) (mk_arr hP'.2.2.2.2) (hc (Nat.le_refl u)), mk_set hP'.2.2.2.2, z0, u1, hs6]
    simp only [r23_88]
theorem isF_18 : isF 18 12 := ⟨rfl, rfl, rfl, rfl, rfl⟩
theorem c_isFilled1 {j : Nat} {u : Nat} {Q : Option Value → am_S → Prop} (h : j < 3) (hu : s.2.1 (2 + 5 * j) 4 = nI u) (h0 : 0 < u) (h2 : u < 2 ^ 31) : am_Call L xs (d + 1) 22 [.ref 0, .int (nI j)] (mk s) Q = Q (some (.int 1)) (mk s) := by
  have h1 : ¬ (1 : Int32) = 0 := by decide
  have h3 : ¬ nI u ≤ 0 := nI_nle h0 h2
  simp only [e22, r22_0, r22_1, r22_4, r22_7, r22_8, r22_11, r22_12, r22_13, r22_16, r22_19, r22_20, r22_23, r22_24, am_li0, am_liS, am_laR0, c_isTree1 h, am_tL, h1, h3, hu, g0_0, t_tree h, f_used (isF_t h), if_false, am_okI, List.length_nil, Nat.zero_le, and_true, true_and, or_true, eq_self]
theorem v0_6' {y o : Nat} {f : am_S → Prop} : am_wf y o (mk s) 0 0 6 (.int 1) f = f (mk (w2 s 0 6 1)) := v0_6 (Or.inr rfl)
/-- what the latest diff left, on both sides -/
def dI (s : St) (t w : Tr) (M : Pr) (X : Nat → Bool) : Prop := s.2.1 0 6 = 1 ∧ s.2.1 121 26 = 1 ∧ (tW t ∧ tW w ∧ 0 < t.1 ∧ 0 < w.1) ∧ cT s 18 t ∧ mT s 3 t ∧ (pW t w M ∧ mI M ∧ sT t w M t.1 X) ∧ (∀ n, n < 12 → s.1 25 n = oI (M.1 n) ∧ s.1 146 n = oI (M.1 n)) ∧ sc s 23 (scr t w M X) ∧ msc s 1 (scr t w M X)
theorem c_tdiff {j j' : Nat} {t w : Tr} (h : j < 3) (h' : j' < 3) (c1 : cT s (2 + 5 * j) t) (c2 : cT s (2 + 5 * j') w) (hw : tW t) (hw' : tW w) (ht : 0 < t.1) (hu : 0 < w.1) :
    ∃ (s' : St) (H : Nat → Nat) (M : Pr) (X : Nat → Bool), dfR s' 23 t w H M X ∧ cT s' 18 t ∧ s'.2.1 0 6 = 1 ∧ ((∀ q, ¬ (19 ≤ q ∧ q ≤ 47) → s'.1 q = s.1 q) ∧ (∀ q k, ¬ (q = 0 ∧ k = 6) → q ≠ 18 → q ≠ 23 → q ≠ 36 → s'.2.1 q k = s.2.1 q k) ∧ ∀ q k, q ≠ 23 → q ≠ 24 → s'.2.2 q k = s.2.2 q k) ∧ ∀ Q : Option Value → am_S → Prop, am_Call L xs (d + 46) 21 [.ref 0, .int (nI j), .int (nI j')] (mk s) Q = Q (some (.int (nI (scr t w M X).length))) (mk s') := by
  have h12 := hw.1
  have h12' := hw'.1
  have hE : isE 23 := isE_k (Or.inl rfl)
  obtain ⟨s1, a1, a2, a3, a4, a5⟩ := c_copyFrom (L := L) (xs := xs) (d := d + 43) (s := s) isF_18 (isF_t h) (by decide) c1.1 h12 h12 (by omega)
  have k1 : cT s1 18 t := ⟨a1, fun n hn => by
    obtain ⟨g1, g2, g3, g4⟩ := a2 n hn
    obtain ⟨e1, e2, e3, e4⟩ := c1.2.1 n hn
    exact ⟨g1.trans e1, g2.trans e2, g3.trans e3, g4.trans e4⟩, fun n n1 n2 => a3 n n1 n2⟩
  have k2 : cT s1 (2 + 5 * j) t := cT_congr (fun q z1 z2 => a4.1 q (by omega)) (a4.2.1 _ _ (by omega)) c1
  have k3 : cT s1 (2 + 5 * j') w := cT_congr (fun q z1 z2 => a4.1 q (by omega)) (a4.2.1 _ _ (by omega)) c2
  obtain ⟨s2, H, M, X, b1, b2, b3⟩ := c_dfind (L := L) (xs := xs) (d := d) hE (isF_t h) (isF_t h') (show 2 + 5 * j + 5 ≤ 23 by omega) (show 2 + 5 * j' + 5 ≤ 23 by omega) k2 k3 hw hw' ht hu
  have k4 : cT s2 18 t := cT_congr (fun q z1 z2 => b2.1 q (by omega)) (b2.2.1 _ _ (by omega) (by omega)) k1
  refine ⟨w2 s2 0 6 1, H, M, X, ?_, cT_congr (fun q _ _ => rfl) (w2_o _ _ (by omega)) k4, w2_a _ _ _ _, ⟨fun q hq => ?_, fun q k n1 n2 n3 n4 => ?_, fun q k n1 n2 => ?_⟩, fun Q => ?_⟩
  · obtain ⟨e1, e2, e3, e4, e5, e6, e7, e8⟩ := b1
    exact ⟨e1, e2, e3, e4, e5, e6, ⟨by rw [w2_o _ _ (by omega)]; exact e7.1, e7.2⟩, by rw [w2_o _ _ (by omega)]; exact e8⟩
  · rw [w2_1, b2.1 q (by omega), a4.1 q (by omega)]
  · rw [w2_o _ _ n1, b2.2.1 q k (by omega) (by omega), a4.2.1 q k (by omega)]
  · rw [w2_g, b2.2.2 q k n1 n2, a4.2.2]
  · have n1 : ¬ (1 : Int32) = 0 := by decide
    have el : s2.2.1 (23 + 13) 1 = nI (scr t w M X).length := b1.2.2.2.2.2.2.1.1
    have el' : (w2 s2 0 6 1).2.1 (23 + 13) 1 = nI (scr t w M X).length := by rw [w2_o _ _ (by omega)]; exact el
    have b3 : ∀ Q : Option Value → am_S → Prop, am_Call L xs (d + 45) 24 [.ref 23, .ref (2 + 5 * j), .ref (2 + 5 * j')] (mk s1) Q = Q none (mk s2) := b3
    have f1 : ∀ Q : Option Value → am_S → Prop, am_Call L xs (d + 45) 22 [.ref 0, .int (nI j)] (mk s) Q = Q (some (.int 1)) (mk s) := fun Q => c_isFilled1 (d := d + 44) h c1.1 ht (by omega)
    have f2 : ∀ Q : Option Value → am_S → Prop, am_Call L xs (d + 45) 22 [.ref 0, .int (nI j')] (mk s) Q = Q (some (.int 1)) (mk s) := fun Q => c_isFilled1 (d := d + 44) h' c2.1 hu (by omega)
    simp only [e21, r21_0, r21_1, r21_2, r21_5, r21_8, r21_9, r21_10, r21_13, r21_18, r21_19, r21_22, r21_23, r21_26, r21_27, r21_28, r21_31, r21_32, r21_35, r21_36, r21_39, r21_40, r21_41, r21_42, r21_45, r21_46, r21_47, r21_50, r21_51, r21_52, r21_55, r21_56, r21_59, r21_62, r21_65, am_li0, am_liS, am_laR0, am_laS, am_tL, am_tN, t_oc, f1, f2, a5, b3, g0_0, g0_2, g0_3, t_tree h, t_tree h', f_oc isF_18, d_oc hE.1, d_1 hE.1, s_1 hE, v0_6', el', n1, not_false_eq_true, if_true, if_false, am_okI, am_okR, List.length_cons, List.length_nil, Nat.reduceAdd, Nat.zero_le, Nat.reduceLeDiff, and_true, true_and]
/-- refused: the second tree -/
theorem c_diff1 {j : Nat} {u : Nat} {b : Int32} {Q : Option Value → am_S → Prop} (hj : j < 3) (hu : s.2.1 (2 + 5 * j) 4 = nI u) (h0 : 0 < u) (h2 : u < 2 ^ 31) (h : (b < 0 ∨ 3 ≤ b) ∨ ∃ j, j < 3 ∧ b = nI j ∧ s.2.1 (2 + 5 * j) 4 = 0) : am_Call L xs (d + 2) 21 [.ref 0, .int (nI j), .int b] (mk s) Q = Q (some (.int (-1))) (mk s) := by
  have n1 : ¬ (1 : Int32) = 0 := by decide
  simp only [e21, r21_0, r21_1, r21_2, r21_5, r21_8, r21_9, r21_10, r21_13, r21_16, r21_17, am_li0, am_liS, am_laR0, t_oc, c_isFilled0 h, c_isFilled1 (d := d) hj hu h0 h2, am_tL, n1, not_true, if_false, am_okI, List.length_nil, Nat.zero_le, and_true, true_and]
theorem m_diff1 {j : Nat} {u : Nat} {b : Int32} {Q : Option Value → am_S → Prop} (hj : j < 3) (hu : s.1 122 j = nI u) (h0 : 0 < u) (h2 : u < 2 ^ 31) (h : (b < 0 ∨ 3 ≤ b) ∨ ∃ j, j < 3 ∧ b = nI j ∧ s.1 122 j = 0) : am_Call L xs (d + 2) 93 [.ref 121, .int (nI j), .int b] (mk s) Q = Q (some (.int (-1))) (mk s) := by
  have n1 : ¬ (1 : Int32) = 0 := by decide
  have e1 : ¬ nI u = 0 := nI_ne0 h0 h2
  have j1 : am_in (nI j) 4 = true := in_of (by omega) (by decide)
  have j2 : (nI j).toNatClampNeg = j := nI_clamp (by omega)
  rcases h with h | ⟨j', h', rfl, hu'⟩
  · simp only [e93, r93_0, r93_1, r93_4, r93_7, r93_8, r93_11, r93_32, r93_33, am_li0, am_liS, am_laR0, m_isTree1 hj, m_isTree0 h, am_tL, n1, if_true, if_false, am_okI, List.length_nil, Nat.zero_le, and_true, true_and]
  · have j3 : am_in (nI j') 4 = true := in_of (by omega) (by decide)
    have j4 : (nI j').toNatClampNeg = j' := nI_clamp (by omega)
    simp only [e93, r93_0, r93_1, r93_4, r93_7, r93_8, r93_11, r93_14, r93_15, r93_18, r93_19, r93_20, r93_23, r93_24, r93_27, r93_28, r93_29, r93_32, r93_33, am_li0, am_liS, am_laR0, m_isTree1 hj, m_isTree1 h', am_tL, g121_0, a122, j1, j2, j3, j4, hu, hu', n1, e1, not_true, if_false, am_okI, List.length_nil, Nat.zero_le, and_true, true_and]
end
