/-! The class: which children stay -/
/-- a Difference at D has its trees and its partners -/
def cD (s : St) (D a b : Nat) (t w : Tr) (M : Pr) : Prop := isD D ∧ isF a 12 ∧ isF b 12 ∧ (a + 5 ≤ D ∧ b + 5 ≤ D) ∧ s.2.2 D 6 = a ∧ s.2.2 D 7 = b ∧ cT s a t ∧ cT s b w ∧ pM (s.1 (D + 2)) (s.1 (D + 3)) M ∧ pW t w M ∧ tW t ∧ tW w
/-- what lies behind the partners may change -/
def frS (D : Nat) (s s' : St) : Prop := (∀ q, ¬ (D + 15 ≤ q ∧ q ≤ D + 24) → s'.1 q = s.1 q) ∧ (∀ q k, ¬ (q = D ∧ k = 8) → ¬ (q = D + 13 ∧ k = 1) → s'.2.1 q k = s.2.1 q k) ∧ s'.2.2 = s.2.2
theorem frS_r (D : Nat) (s : St) : frS D s s := ⟨fun _ _ => rfl, fun _ _ _ _ => rfl, rfl⟩
theorem frS_t {D : Nat} {s s1 s2 : St} (h : frS D s s1) (h' : frS D s1 s2) : frS D s s2 := ⟨fun q hq => (h'.1 q hq).trans (h.1 q hq), fun q k h1 h2 => (h'.2.1 q k h1 h2).trans (h.2.1 q k h1 h2), h'.2.2.trans h.2.2⟩
/-- one array of them -/
theorem frS_u {D : Nat} (s : St) {q : Nat} (g : Nat → Int32) (h : D + 15 ≤ q) (h' : q ≤ D + 24) : frS D s (va_up s.1 q g, s.2) := ⟨fun p hp => up_ne _ _ (by omega), fun _ _ _ _ => rfl, rfl⟩
theorem cD_fr {s s' : St} {D a b : Nat} {t w : Tr} {M : Pr} (f : frS D s s') (h : cD s D a b t w M) : cD s' D a b t w M := by
  obtain ⟨h1, h2, h3, h4, h5, h6, h7, h8, h9, h10⟩ := h
  refine ⟨h1, h2, h3, h4, by rw [f.2.2]; exact h5, by rw [f.2.2]; exact h6, cT_congr (fun q z1 z2 => f.1 q (by omega)) (f.2.1 _ _ (by omega) (by omega)) h7, cT_congr (fun q z1 z2 => f.1 q (by omega)) (f.2.1 _ _ (by omega) (by omega)) h8, ?_, h10⟩
  rw [f.1 (D + 2) (by omega), f.1 (D + 3) (by omega)]
  exact h9
section
variable {L : Nat} {xs : Nat → Int32} {d : Nat} {s : St}
theorem c_partnerOf {P x : Nat} {Q : Option Value → am_S → Prop} (h : isP P) (hx : x < 12) : am_Call L xs d 44 [.ref P, .int (nI x)] (mk s) Q = Q (some (.int (s.1 (P + 1) x))) (mk s) := by
  have k1 : am_in (nI x) 12 = true := in_of hx (by decide)
  have k2 : (nI x).toNatClampNeg = x := nI_clamp (by omega)
  simp only [e44, r44_0, r44_1, r44_4, r44_5, r44_6, am_li0, am_liS, am_laR0, p_0 h, p_a1 h, k1, k2, true_and]
theorem c_ownerOf {P x : Nat} {Q : Option Value → am_S → Prop} (h : isP P) (hx : x < 12) : am_Call L xs d 49 [.ref P, .int (nI x)] (mk s) Q = Q (some (.int (s.1 (P + 2) x))) (mk s) := by
  have k1 : am_in (nI x) 12 = true := in_of hx (by decide)
  have k2 : (nI x).toNatClampNeg = x := nI_clamp (by omega)
  simp only [e49, r49_0, r49_1, r49_4, r49_5, r49_6, am_li0, am_liS, am_laR0, p_1 h, p_a2 h, k1, k2, true_and]
/-- the row and the places hold those of the first i that are to be held -/
def gkA (t w : Tr) (M : Pr) (A B : Int32) (D i : Nat) (s : St) : Prop := ∀ x, x < i → kn t w M A B x = true → s.1 (D + 22) (lz (kn t w M A B) x) = nI x ∧ s.1 (D + 23) (lz (kn t w M A B) x) = nI (pl w ((M.1 x).getD 0))
def frG (D : Nat) (s s' : St) : Prop := (∀ q, q ≠ D + 22 → q ≠ D + 23 → s'.1 q = s.1 q) ∧ s'.2 = s.2
theorem frG_S {D : Nat} {s s' : St} (h : frG D s s') : frS D s s' := ⟨fun q hq => h.1 q (by omega) (by omega), fun _ _ _ _ => by rw [h.2], by rw [h.2]⟩
theorem c_gk_loop {D a b : Nat} {t w : Tr} {M : Pr} {A B : Int32} : ∀ (m i : Nat) (s : St) (v5 : Value), t.1 - i = m → i ≤ t.1 → cD s D a b t w M → gkA t w M A B D i s →
    ∃ s', gkA t w M A B D t.1 s' ∧ frG D s s' ∧ ∀ Q : Option Value → am_S → Prop, am_Rn L xs (d + 1) 43 5 [.ref D, .int A, .int B, .int (nI (lz (kn t w M A B) i)), .int (nI i), v5] [] (mk s) Q = Q (some (.int (nI (lz (kn t w M A B) t.1)))) (mk s')
  | 0, i, s, v5, hm, hi, hD, hg => by
    obtain ⟨hDD, hA, hB, hl, e6, e7, c1, c2, hM, hp, hw, hw'⟩ := hD
    have h12 := hw.1
    have e : i = t.1 := by omega
    subst e
    refine ⟨s, hg, ⟨fun _ _ _ => rfl, rfl⟩, fun Q => ?_⟩
    have h1 : nI t.1 ≤ nI t.1 := nI_le (Nat.le_refl _) (by omega)
    rw [r43_5]
    simp only [r43_7, r43_8, r43_11, r43_14, r43_95, r43_96, am_li0, am_liS, am_laR0, d_6 hDD, e6, f_used hA, c1.1, h1, if_true]
  | m + 1, i, s, v5, hm, hi, hD, hg => by
    have hD' := hD
    obtain ⟨hDD, hA, hB, hl, e6, e7, c1, c2, hM, hp, hw, hw'⟩ := hD
    have hPP : isP (D + 1) := hDD.2.2.2.2.2.2
    have h12 := hw.1
    have h12' := hw'.1
    have h1 : ¬ nI t.1 ≤ nI i := nI_ge (by omega) (by omega)
    have i1 : am_in (nI i) 12 = true := in_of (by omega) (by decide)
    have i2 : (nI i).toNatClampNeg = i := nI_clamp (by omega)
    have em : s.1 (D + 1 + 1) i = oI (M.1 i) := (hM i (by omega)).1
    have ep := (c1.2.1 i (by omega)).1
    have hzi := lz_le (kn t w M A B) i
    by_cases hk : kn t w M A B i = true
    · obtain ⟨k1, y, k2, k3⟩ := kn_iff.mp hk
      have hy := (hp.1 i y k2).2
      have y1 : am_in (nI y) 12 = true := in_of (by omega) (by decide)
      have y2 : (nI y).toNatClampNeg = y := nI_clamp (by omega)
      have y3 : ¬ nI y = -1 := nI_m1 y (by omega)
      have ep2 := (c2.2.1 y hy).1
      have ep3 : s.1 (b + 2) y = nI (pl w y) := (c2.2.1 y hy).2.1
      have es : lz (kn t w M A B) (i + 1) = lz (kn t w M A B) i + 1 := by rw [lz_s, if_pos hk]
      have z1 : am_in (nI (lz (kn t w M A B) i)) 12 = true := in_of (by omega) (by decide)
      have z2 : (nI (lz (kn t w M A B) i)).toNatClampNeg = lz (kn t w M A B) i := nI_clamp (by omega)
      rw [k2, oI_some] at em
      generalize hs1 : ((va_up (va_up s.1 (D + 22) (upd (s.1 (D + 22)) (lz (kn t w M A B) i) (nI i))) (D + 23) (upd (s.1 (D + 23)) (lz (kn t w M A B) i) (nI (pl w y))), s.2) : St) = s1
      have f1 : frG D s s1 := by
        rw [← hs1]
        exact ⟨fun q q1 q2 => by dsimp only; rw [up_ne _ _ q2, up_ne _ _ q1], rfl⟩
      have g1 : s1.1 (D + 22) = upd (s.1 (D + 22)) (lz (kn t w M A B) i) (nI i) := by rw [← hs1]; dsimp only; rw [up_ne _ _ (by omega), up_same]
      have g2 : s1.1 (D + 23) = upd (s.1 (D + 23)) (lz (kn t w M A B) i) (nI (pl w y)) := by rw [← hs1]; dsimp only; rw [up_same]
      obtain ⟨s', r1, r2, r3⟩ := c_gk_loop m (i + 1) s1 (.int (nI y)) (by omega) (by omega) (cD_fr (frG_S f1) hD') (fun x hx hkx => by
        rw [g1, g2]
        by_cases e : x = i
        · subst e
          rw [upd_s, upd_s, k2]
          exact ⟨rfl, rfl⟩
        · have := lz_lt (show x < i by omega) hkx
          rw [upd_n _ _ (by omega), upd_n _ _ (by omega)]
          exact hg x (by omega) hkx)
      refine ⟨s', r1, ⟨fun q q1 q2 => (r2.1 q q1 q2).trans (f1.1 q q1 q2), r2.2.trans f1.2⟩, fun Q => ?_⟩
      rw [← r3 Q, ← hs1, es]
      have x1 : ∀ g : Nat → Int32, va_up s.1 (D + 22) g (b + 2) = s.1 (b + 2) := fun g => up_ne _ _ (by omega)
      have x2 : ∀ g : Nat → Int32, va_up s.1 (D + 22) g (D + 23) = s.1 (D + 23) := fun g => up_ne _ _ (by omega)
      rw [r43_5]
      simp only [r43_7, r43_8, r43_11, r43_14, r43_17, r43_18, r43_21, r43_23, r43_26, r43_28, r43_29, r43_32, r43_35, r43_37, r43_38, r43_39, r43_42, r43_44, r43_45, r43_48, r43_49, r43_52, r43_55, r43_57, r43_58, r43_59, r43_62, r43_63, r43_66, r43_67, r43_69, r43_70, r43_71, r43_74, r43_75, r43_76, r43_79, r43_82, r43_84, r43_85, r43_86, r43_89, r43_92, am_li0, am_liS, am_laR0, am_tL, p_oc hPP, c_partnerOf hPP (show i < 12 by omega), d_0 hDD, d_3 hDD, d_4 hDD, d_6 hDD, d_7 hDD, d_w3 hDD, d_w4 hDD, e6, e7, f_used hA, f_par hA, fa_par hA, f_par hB, fa_par hB, f_pla hB, fa_pla hB, c1.1, h1, i1, i2, y1, y2, y3, z1, z2, em, ep, ep2, ep3, k1, k3, x1, x2, nI_1, not_true, if_false, am_okI, List.length_cons, List.length_nil, List.set_cons_succ, List.set_cons_zero, Nat.reduceAdd, Nat.reduceLT, Nat.zero_le, Nat.reduceLeDiff, and_true, true_and]
    · have es : lz (kn t w M A B) (i + 1) = lz (kn t w M A B) i := by rw [lz_s, if_neg hk]; rfl
      obtain ⟨s', r1, r2, r3⟩ := c_gk_loop m (i + 1) s (.int (oI (M.1 i))) (by omega) (by omega) hD' (fun x hx hkx => by
        by_cases e : x = i
        · rw [e] at hkx; exact absurd hkx hk
        · exact hg x (by omega) hkx)
      refine ⟨s', r1, r2, fun Q => ?_⟩
      rw [← r3 Q, es, r43_5]
      by_cases k1 : t.2.1 i = A
      · cases k2 : M.1 i with
        | none =>
          rw [k2, oI_none] at em
          rw [oI_none]
          simp only [r43_7, r43_8, r43_11, r43_14, r43_17, r43_18, r43_21, r43_23, r43_26, r43_28, r43_29, r43_32, r43_35, r43_37, r43_38, r43_39, r43_42, r43_44, r43_45, r43_89, r43_92, am_li0, am_liS, am_laR0, am_tL, p_oc hPP, c_partnerOf hPP (show i < 12 by omega), d_0 hDD, d_6 hDD, e6, f_used hA, f_par hA, fa_par hA, c1.1, h1, i1, i2, em, ep, k1, nI_1, not_true, if_true, if_false, am_okI, List.length_cons, List.length_nil, List.set_cons_succ, List.set_cons_zero, Nat.reduceAdd, Nat.reduceLT, Nat.zero_le, Nat.reduceLeDiff, and_true, true_and]
        | some y =>
          have k3 : ¬ w.2.1 y = B := fun q => hk (kn_iff.mpr ⟨k1, y, k2, q⟩)
          have hy := (hp.1 i y k2).2
          have y1 : am_in (nI y) 12 = true := in_of (by omega) (by decide)
          have y2 : (nI y).toNatClampNeg = y := nI_clamp (by omega)
          have y3 : ¬ nI y = -1 := nI_m1 y (by omega)
          have ep2 := (c2.2.1 y hy).1
          rw [k2, oI_some] at em
          rw [oI_some]
          simp only [r43_7, r43_8, r43_11, r43_14, r43_17, r43_18, r43_21, r43_23, r43_26, r43_28, r43_29, r43_32, r43_35, r43_37, r43_38, r43_39, r43_42, r43_44, r43_45, r43_48, r43_49, r43_52, r43_55, r43_57, r43_58, r43_59, r43_89, r43_92, am_li0, am_liS, am_laR0, am_tL, p_oc hPP, c_partnerOf hPP (show i < 12 by omega), d_0 hDD, d_6 hDD, d_7 hDD, e6, e7, f_used hA, f_par hA, fa_par hA, f_par hB, fa_par hB, c1.1, h1, i1, i2, y1, y2, y3, em, ep, ep2, k1, k3, nI_1, not_true, not_false_eq_true, if_true, if_false, am_okI, List.length_cons, List.length_nil, List.set_cons_succ, List.set_cons_zero, Nat.reduceAdd, Nat.reduceLT, Nat.zero_le, Nat.reduceLeDiff, and_true, true_and]
      · simp only [r43_7, r43_8, r43_11, r43_14, r43_17, r43_18, r43_21, r43_23, r43_26, r43_28, r43_29, r43_32, r43_35, r43_37, r43_38, r43_39, r43_89, r43_92, am_li0, am_liS, am_laR0, am_tL, p_oc hPP, c_partnerOf hPP (show i < 12 by omega), d_0 hDD, d_6 hDD, e6, f_used hA, f_par hA, fa_par hA, c1.1, h1, i1, i2, em, ep, k1, nI_1, not_false_eq_true, if_true, if_false, am_okI, List.length_cons, List.length_nil, List.set_cons_succ, List.set_cons_zero, Nat.reduceAdd, Nat.reduceLT, Nat.zero_le, Nat.reduceLeDiff, and_true, true_and]
theorem c_gatherKept {D a b : Nat} {t w : Tr} {M : Pr} {A B : Int32} (hD : cD s D a b t w M) :
    ∃ s', gkA t w M A B D t.1 s' ∧ frG D s s' ∧ ∀ Q : Option Value → am_S → Prop, am_Call L xs (d + 1) 43 [.ref D, .int A, .int B] (mk s) Q = Q (some (.int (nI (lz (kn t w M A B) t.1)))) (mk s') := by
  obtain ⟨s', r1, r2, r3⟩ := c_gk_loop (L := L) (xs := xs) (d := d) (A := A) (B := B) t.1 0 s (.retAddr 0) rfl (Nat.zero_le _) hD (fun x hx => absurd hx (Nat.not_lt_zero _))
  refine ⟨s', r1, r2, fun Q => ?_⟩
  rw [← r3 Q]
  simp only [e43, r43_0, r43_1, r43_2, r43_3, List.length_cons, List.length_nil, List.set_cons_succ, List.set_cons_zero, Nat.reduceAdd, Nat.reduceLT, true_and]
  rfl
/-! how far each reaches -/
/-- the places are p, those from m on reach as far as R says -/
def mrA (p R : Nat → Nat) (D n m : Nat) (s : St) : Prop := (∀ k, k < n → s.1 (D + 23) k = nI (p k)) ∧ (∀ k, m ≤ k → k < n → s.1 (D + 24) k = nI (R k)) ∧ lR p n m R ∧ ∀ k, m ≤ k → k < n → R k + k ≤ n
def frR (D : Nat) (s s' : St) : Prop := (∀ q, q ≠ D + 24 → s'.1 q = s.1 q) ∧ s'.2 = s.2
theorem frR_t {D : Nat} {s s1 s2 : St} (h : frR D s s1) (h' : frR D s1 s2) : frR D s s2 := ⟨fun q hq => (h'.1 q hq).trans (h.1 q hq), h'.2.trans h.2⟩
theorem frR_S {D : Nat} {s s' : St} (h : frR D s s') : frS D s s' := ⟨fun q hq => h.1 q (by omega), fun _ _ _ _ => by rw [h.2], by rw [h.2]⟩
theorem c_mr_in {D n i : Nat} {p R : Nat → Nat} {v2 : Value} (hDD : isD D) (hn : n ≤ 12) (hi : i < n) (hp : ∀ k, k < n → p k ≤ 12) : ∀ (m j : Nat) (s : St) (r : Nat), n - j = m → i < j → j ≤ n → mrA p R D n (i + 1) s → s.1 (D + 24) i = nI r → 1 ≤ r → r + i ≤ n → (r = 1 ∨ ∃ k, i < k ∧ k < j ∧ p i < p k ∧ r = R k + 1) → (∀ k, i < k → k < j → p i < p k → R k + 1 ≤ r) →
    ∃ (s' : St) (r' : Nat), mrA p R D n (i + 1) s' ∧ s'.1 (D + 24) i = nI r' ∧ 1 ≤ r' ∧ r' + i ≤ n ∧ (r' = 1 ∨ ∃ k, i < k ∧ k < n ∧ p i < p k ∧ r' = R k + 1) ∧ (∀ k, i < k → k < n → p i < p k → R k + 1 ≤ r') ∧ frR D s s' ∧ ∀ Q : Option Value → am_S → Prop, am_Rn L xs (d + 1) 45 22 [.ref D, .int (nI n), v2, .int (nI i), .int (nI j)] [] (mk s) Q = am_Rn L xs (d + 1) 45 74 [.ref D, .int (nI n), v2, .int (nI i), .int (nI n)] [] (mk s') Q
  | 0, j, s, r, hm, hj, hjn, hA, e1, e2, e3, e4, e5 => by
    have e : j = n := by omega
    subst e
    refine ⟨s, r, hA, e1, e2, e3, e4, e5, ⟨fun _ _ => rfl, rfl⟩, fun Q => ?_⟩
    have h1 : nI j ≤ nI j := nI_le (Nat.le_refl _) (by omega)
    rw [r45_22]
    simp only [r45_24, r45_25, am_li0, am_liS, h1, if_true]
  | m + 1, j, s, r, hm, hj, hjn, hA, e1, e2, e3, e4, e5 => by
    have hA' := hA
    obtain ⟨a1, a2, a3, a4⟩ := hA
    have h1 : ¬ nI n ≤ nI j := nI_ge (by omega) (by omega)
    have i1 : am_in (nI i) 12 = true := in_of (by omega) (by decide)
    have i2 : (nI i).toNatClampNeg = i := nI_clamp (by omega)
    have j1 : am_in (nI j) 12 = true := in_of (by omega) (by decide)
    have j2 : (nI j).toNatClampNeg = j := nI_clamp (by omega)
    have b1 := a1 i hi
    have b2 := a1 j (by omega)
    have b3 := a2 j (by omega) (by omega)
    have b4 := hp i hi
    have b5 := hp j (by omega)
    have b6 := a4 j (by omega) (by omega)
    by_cases hlt : p i < p j
    · have c1 : ¬ nI (p j) ≤ nI (p i) := nI_ge hlt (by omega)
      have hmx : (if nI r < nI (R j + 1) then nI (R j + 1) else nI r) = nI (max r (R j + 1)) := by
        by_cases hcc : r < R j + 1
        · rw [if_pos (nI_lt hcc (by omega)), Nat.max_eq_right (by omega)]
        · rw [if_neg (nI_nlt (by omega) (by omega)), Nat.max_eq_left (by omega)]
      generalize hs1 : ((va_up s.1 (D + 24) (upd (s.1 (D + 24)) i (nI (max r (R j + 1)))), s.2) : St) = s1
      have f1 : frR D s s1 := by rw [← hs1]; exact ⟨fun q hq => up_ne _ _ hq, rfl⟩
      have g1 : s1.1 (D + 24) = upd (s.1 (D + 24)) i (nI (max r (R j + 1))) := by rw [← hs1]; dsimp only; rw [up_same]
      have hA1 : mrA p R D n (i + 1) s1 := ⟨fun k hk => by rw [f1.1 _ (by omega)]; exact a1 k hk, fun k k1 k2 => by rw [g1, upd_n _ _ (by omega)]; exact a2 k k1 k2, a3, a4⟩
      obtain ⟨s', r', q1, q2, q3, q4, q5, q6, q7, q8⟩ := c_mr_in hDD hn hi hp m (j + 1) s1 (max r (R j + 1)) (by clear e4; omega) (by clear e4; omega) (by clear e4; omega) hA1 (by rw [g1, upd_s]) (by clear e4; omega) (by clear e4; omega) (by
        by_cases hcc : r < R j + 1
        · exact Or.inr ⟨j, hj, by omega, hlt, by omega⟩
        · rcases e4 with e | ⟨k, k1, k2, k3, k4⟩
          · left; omega
          · exact Or.inr ⟨k, k1, by omega, k3, by omega⟩) (fun k k1 k2 k3 => by
        by_cases e : k = j
        · rw [e]; omega
        · have := e5 k k1 (by omega) k3; omega)
      refine ⟨s', r', q1, q2, q3, q4, q5, q6, frR_t f1 q7, fun Q => ?_⟩
      rw [← q8 Q, ← hs1, r45_22]
      simp only [r45_24, r45_25, r45_28, r45_29, r45_32, r45_33, r45_34, r45_35, r45_38, r45_40, r45_41, r45_44, r45_45, r45_48, r45_49, r45_50, r45_53, r45_54, r45_55, r45_56, r45_59, r45_61, r45_62, r45_63, r45_64, r45_67, r45_68, r45_71, am_li0, am_liS, am_laR0, d_4 hDD, d_5 hDD, d_a4 hDD, d_a5 hDD, d_w5 hDD, h1, i1, i2, j1, j2, b1, b2, b3, c1, e1, nI_1, hmx, if_false, List.length_cons, List.length_nil, List.set_cons_succ, List.set_cons_zero, Nat.reduceAdd, Nat.reduceLT, Nat.reduceLeDiff, true_and]
    · have c1 : nI (p j) ≤ nI (p i) := nI_le (by omega) (by omega)
      obtain ⟨s', r', q1, q2, q3, q4, q5, q6, q7, q8⟩ := c_mr_in hDD hn hi hp m (j + 1) s r (by clear e4; omega) (by clear e4; omega) (by clear e4; omega) hA' e1 e2 e3 (by
        rcases e4 with e | ⟨k, k1, k2, k3, k4⟩
        · exact Or.inl e
        · exact Or.inr ⟨k, k1, by omega, k3, k4⟩) (fun k k1 k2 k3 => by
        by_cases e : k = j
        · rw [e] at k3; exact absurd k3 hlt
        · exact e5 k k1 (by omega) k3)
      refine ⟨s', r', q1, q2, q3, q4, q5, q6, q7, fun Q => ?_⟩
      rw [← q8 Q, r45_22]
      simp only [r45_24, r45_25, r45_28, r45_29, r45_32, r45_33, r45_34, r45_35, r45_38, r45_40, r45_41, r45_68, r45_71, am_li0, am_liS, am_laR0, d_4 hDD, d_a4 hDD, h1, i1, i2, j1, j2, b1, b2, c1, nI_1, if_true, if_false, List.length_cons, List.length_nil, List.set_cons_succ, List.set_cons_zero, Nat.reduceAdd, Nat.reduceLT, Nat.reduceLeDiff, true_and]
theorem c_mr_loop {D n : Nat} {p : Nat → Nat} (hDD : isD D) (hn : n ≤ 12) (hp : ∀ k, k < n → p k ≤ 12) : ∀ (m : Nat) (s : St) (R : Nat → Nat) (F : Nat) (v4 : Value), m ≤ n → mrA p R D n m s → (∀ k, m ≤ k → k < n → R k ≤ F) → (F = 0 ∨ ∃ k, m ≤ k ∧ k < n ∧ R k = F) → F ≤ 12 →
    ∃ (s' : St) (R' : Nat → Nat) (F' : Nat), mrA p R' D n 0 s' ∧ (∀ k, k < n → R' k ≤ F') ∧ (F' = 0 ∨ ∃ k, k < n ∧ R' k = F') ∧ F' ≤ 12 ∧ frR D s s' ∧ ∀ Q : Option Value → am_S → Prop, am_Rn L xs (d + 1) 45 6 [.ref D, .int (nI n), .int (nI F), .int (nI m - 1), v4] [] (mk s) Q = Q (some (.int (nI F'))) (mk s')
  | 0, s, R, F, v4, hm, hA, h1, h2, h3 => by
    refine ⟨s, R, F, hA, fun k hk => h1 k (Nat.zero_le _) hk, ?_, h3, ⟨fun _ _ => rfl, rfl⟩, fun Q => ?_⟩
    · rcases h2 with e | ⟨k, -, k2⟩
      · exact Or.inl e
      · exact Or.inr ⟨k, k2⟩
    · have e0 : nI 0 - 1 < 0 := by decide
      rw [r45_6]
      simp only [r45_7, r45_91, r45_92, am_li0, am_liS, e0, if_true]
  | m + 1, s, R, F, v4, hm, hA, h1, h2, h3 => by
    obtain ⟨a1, a2, a3, a4⟩ := hA
    have e0 : ¬ nI m < 0 := nI_pos (by omega)
    have i1 : am_in (nI m) 12 = true := in_of (by omega) (by decide)
    have i2 : (nI m).toNatClampNeg = m := nI_clamp (by omega)
    have ej : nI m + 1 = nI (m + 1) := nI_1 m
    generalize hs1 : ((va_up s.1 (D + 24) (upd (s.1 (D + 24)) m 1), s.2) : St) = s1
    have f1 : frR D s s1 := by rw [← hs1]; exact ⟨fun q hq => up_ne _ _ hq, rfl⟩
    have g1 : s1.1 (D + 24) = upd (s.1 (D + 24)) m 1 := by rw [← hs1]; dsimp only; rw [up_same]
    have hA1 : mrA p R D n (m + 1) s1 := ⟨fun k hk => by rw [f1.1 _ (by omega)]; exact a1 k hk, fun k k1 k2 => by rw [g1, upd_n _ _ (by omega)]; exact a2 k k1 k2, a3, a4⟩
    obtain ⟨s2, r, q1, q2, q3, q4, q5, q6, q7, q8⟩ := c_mr_in (L := L) (xs := xs) (d := d) (R := R) (v2 := .int (nI F)) hDD hn (show m < n by omega) hp (n - (m + 1)) (m + 1) s1 1 rfl (by omega) (by omega) hA1 (by rw [g1, upd_s]; rfl) (by omega) (by omega) (Or.inl rfl) (fun k k1 k2 => by omega)
    have hu : ∀ k, k ≠ m → uN R m r k = R k := fun k hk => if_neg hk
    have hum : uN R m r m = r := if_pos rfl
    have hA2 : mrA p (uN R m r) D n m s2 := by
      refine ⟨q1.1, fun k k1 k2 => ?_, fun k k1 k2 => ?_, fun k k1 k2 => ?_⟩
      · by_cases e : k = m
        · rw [e, hum]; exact q2
        · rw [hu k e]; exact q1.2.1 k (by omega) k2
      · by_cases e : k = m
        · subst e
          rw [hum]
          refine ⟨q3, ?_, fun j j1 j2 j3 => by rw [hu j (by omega)]; exact q6 j j1 j2 j3⟩
          rcases q5 with e | ⟨j, j1, j2, j3, j4⟩
          · exact Or.inl e
          · exact Or.inr ⟨j, j1, j2, j3, by rw [hu j (by omega)]; exact j4⟩
        · rw [hu k e]
          obtain ⟨b1, b2, b3⟩ := a3 k (by omega) k2
          refine ⟨b1, ?_, fun j j1 j2 j3 => by rw [hu j (by omega)]; exact b3 j j1 j2 j3⟩
          rcases b2 with e | ⟨j, j1, j2, j3, j4⟩
          · exact Or.inl e
          · exact Or.inr ⟨j, j1, j2, j3, by rw [hu j (by omega)]; exact j4⟩
      · by_cases e : k = m
        · rw [e, hum]; exact q4
        · rw [hu k e]; exact a4 k (by omega) k2
    have hmx : (if nI F < nI r then nI r else nI F) = nI (max F r) := by
      by_cases hcc : F < r
      · rw [if_pos (nI_lt hcc (by omega)), Nat.max_eq_right (by omega)]
      · rw [if_neg (nI_nlt (by omega) (by omega)), Nat.max_eq_left (by omega)]
    obtain ⟨s', R', F', t1, t2, t3, t4, t5, t6⟩ := c_mr_loop hDD hn hp m s2 (uN R m r) (max F r) (.int (nI n)) (by omega) hA2 (fun k k1 k2 => by
        by_cases e : k = m
        · rw [e, hum]; omega
        · rw [hu k e]; have := h1 k (by omega) k2; omega) (by
        by_cases hcc : F < r
        · exact Or.inr ⟨m, Nat.le_refl _, by omega, by rw [hum]; omega⟩
        · rcases h2 with e | ⟨k, k1, k2, k3⟩
          · omega
          · exact Or.inr ⟨k, by omega, k2, by rw [hu k (by omega)]; omega⟩) (by omega)
    refine ⟨s', R', F', t1, t2, t3, t4, frR_t f1 (frR_t q7 t5), fun Q => ?_⟩
    have e9 : nI m + -1 = nI m - 1 := by rw [Int32.sub_eq_add_neg]
    have q8 := q8 Q
    rw [← hs1] at q8
    rw [← t6 Q, nI_pred, r45_6]
    simp only [r45_7, r45_10, r45_11, r45_14, r45_15, r45_16, r45_17, r45_18, r45_19, r45_20, am_li0, am_liS, am_laR0, d_5 hDD, d_w5 hDD, e0, i1, i2, ej, if_false, List.length_cons, List.length_nil, List.set_cons_succ, List.set_cons_zero, Nat.reduceAdd, Nat.reduceLT, Nat.reduceLeDiff, true_and]
    rw [q8]
    simp only [r45_74, r45_75, r45_76, r45_79, r45_80, r45_81, r45_84, r45_85, r45_88, am_li0, am_liS, am_laR0, d_5 hDD, d_a5 hDD, i1, i2, q2, hmx, e9, List.length_cons, List.length_nil, List.set_cons_succ, List.set_cons_zero, Nat.reduceAdd, Nat.reduceLT, Nat.reduceLeDiff, true_and]
theorem c_measureReach {D n : Nat} {p : Nat → Nat} (hDD : isD D) (hn : n ≤ 12) (hp : ∀ k, k < n → p k ≤ 12) (h : ∀ k, k < n → s.1 (D + 23) k = nI (p k)) :
    ∃ (s' : St) (R : Nat → Nat) (F : Nat), mrA p R D n 0 s' ∧ (∀ k, k < n → R k ≤ F) ∧ (F = 0 ∨ ∃ k, k < n ∧ R k = F) ∧ F ≤ 12 ∧ frR D s s' ∧ ∀ Q : Option Value → am_S → Prop, am_Call L xs (d + 1) 45 [.ref D, .int (nI n)] (mk s) Q = Q (some (.int (nI F))) (mk s') := by
  obtain ⟨s', R, F, t1, t2, t3, t4, t5, t6⟩ := c_mr_loop (L := L) (xs := xs) (d := d) hDD hn hp n s (fun _ => 0) 0 (.retAddr 0) (Nat.le_refl _) ⟨h, fun k k1 k2 => by omega, fun k k1 k2 => by omega, fun k k1 k2 => by omega⟩ (fun k k1 k2 => by omega) (Or.inl rfl) (by omega)
  refine ⟨s', R, F, t1, t2, t3, t4, t5, fun Q => ?_⟩
  rw [← t6 Q]
  simp only [e45, r45_0, r45_1, r45_2, r45_3, r45_4, r45_5, am_li0, am_liS, List.length_cons, List.length_nil, List.set_cons_succ, List.set_cons_zero, Nat.reduceAdd, Nat.reduceLT, true_and]
  rfl
end
