/-! The reference: which children stay -/
/-- the reference has two trees and their partners -/
def mD (s : St) (j j' : Nat) (t w : Tr) (M : Pr) : Prop := j < 3 ∧ j' < 3 ∧ mT s j t ∧ mT s j' w ∧ s.2.1 121 16 = nI j ∧ s.2.1 121 17 = nI j' ∧ pM (s.1 126) (s.1 127) M ∧ pW t w M ∧ tW t ∧ tW w
def fzM (s s' : St) : Prop := (∀ q, ¬ (134 ≤ q ∧ q ≤ 145) → s'.1 q = s.1 q) ∧ s'.2 = s.2
theorem fzM_r (s : St) : fzM s s := ⟨fun _ _ => rfl, rfl⟩
theorem fzM_t {s s1 s2 : St} (h : fzM s s1) (h' : fzM s1 s2) : fzM s s2 := ⟨fun q hq => (h'.1 q hq).trans (h.1 q hq), h'.2.trans h.2⟩
theorem fzM_u (s : St) {q : Nat} (g : Nat → Int32) (h : 134 ≤ q) (h' : q ≤ 145) : fzM s (va_up s.1 q g, s.2) := ⟨fun p hp => up_ne _ _ (by omega), rfl⟩
theorem mD_fr {s s' : St} {j j' : Nat} {t w : Tr} {M : Pr} (f : fzM s s') (h : mD s j j' t w M) : mD s' j j' t w M := by
  obtain ⟨h1, h2, h3, h4, h5, h6, h7, h8⟩ := h
  refine ⟨h1, h2, mT_congr (fun q z1 z2 => f.1 q (by omega)) h3, mT_congr (fun q z1 z2 => f.1 q (by omega)) h4, by rw [f.2]; exact h5, by rw [f.2]; exact h6, ?_, h8⟩
  rw [f.1 126 (by omega), f.1 127 (by omega)]
  exact h7
theorem ix12 (j i : Nat) : (12 : Int32) * nI j + nI i = nI (12 * j + i) := by
  show nI 12 * nI j + nI i = _
  rw [pk_mul, nI_add]
theorem nI_shl2 : ∀ n : Fin 13, (1 : Int32) <<< (nI n.val &&& 31) = nI (2 ^ n.val) := by decide
/-- one of the parents that the reference looks at, that of its partner, and whether it has one -/
def sA (t : Tr) (M : Pr) (A B : Int32) (g : Bool) : Prop := (A = -1 ∧ B = -1 ∧ g = true) ∨ ∃ k, k < t.1 ∧ A = nI k ∧ B = oI (M.1 k) ∧ g = (M.1 k).isSome
def kg (t w : Tr) (M : Pr) (A B : Int32) (g : Bool) (x : Nat) : Bool := kn t w M A B x && g
section
variable {L : Nat} {xs : Nat → Int32} {d : Nat} {s : St}
theorem m_gk_loop {j j' : Nat} {t w : Tr} {M : Pr} {A B : Int32} {g : Bool} {v6 v7 v8 v9 : Value} (hA : sA t M A B g) : ∀ (m i : Nat) (s : St) (v4 v5 : Value), t.1 - i = m → i ≤ t.1 → mD s j j' t w M → (∀ x, x < i → kg t w M A B g x = true → s.1 137 (lz (kg t w M A B g) x) = nI x) →
    ∃ (s' : St) (v3 v4' v5' : Value), (∀ x, x < t.1 → kg t w M A B g x = true → s'.1 137 (lz (kg t w M A B g) x) = nI x) ∧ (∀ q, q ≠ 137 → s'.1 q = s.1 q) ∧ s'.2 = s.2 ∧ ∀ Q : Option Value → am_S → Prop, am_Rn L xs d 105 4 [.ref 121, .int A, .int (nI (lz (kg t w M A B g) i)), .int (nI i), v4, v5, v6, v7, v8, v9] [] (mk s) Q = am_Rn L xs d 105 125 [.ref 121, .int A, .int (nI (lz (kg t w M A B g) t.1)), v3, v4', v5', v6, v7, v8, v9] [] (mk s') Q
  | 0, i, s, v4, v5, hm, hi, hD, hg => by
    obtain ⟨hj, hj', q1, q2, q3, q4, hM, hp, hw, hw'⟩ := hD
    have e : i = t.1 := by omega
    subst e
    have h12 := hw.1
    refine ⟨s, .int (nI t.1), v4, v5, hg, fun _ _ => rfl, rfl, fun Q => ?_⟩
    have h1 : nI t.1 ≤ nI t.1 := nI_le (Nat.le_refl _) (by omega)
    have k2 : am_in (nI j) 4 = true := in_of (by omega) (by decide)
    have k3 : (nI j).toNatClampNeg = j := nI_clamp (by omega)
    rw [r105_4]
    simp only [r105_5, r105_6, r105_9, r105_10, r105_13, r105_14, am_li0, am_liS, am_laR0, g121_0, g121_16, a122, q3, k2, k3, q1.1, h1, if_true, true_and]
  | m + 1, i, s, v4, v5, hm, hi, hD, hg => by
    have hD' := hD
    obtain ⟨hj, hj', q1, q2, q3, q4, hM, hp, hw, hw'⟩ := hD
    have h12 := hw.1
    have h12' := hw'.1
    have h1 : ¬ nI t.1 ≤ nI i := nI_ge (by omega) (by omega)
    have k2 : am_in (nI j) 4 = true := in_of (by omega) (by decide)
    have k3 : (nI j).toNatClampNeg = j := nI_clamp (by omega)
    have i1 : am_in (nI i) 12 = true := in_of (by omega) (by decide)
    have i2 : (nI i).toNatClampNeg = i := nI_clamp (by omega)
    have z1 : am_in (nI (12 * j + i)) 48 = true := in_of (by omega) (by decide)
    have z2 : (nI (12 * j + i)).toNatClampNeg = 12 * j + i := nI_clamp (by omega)
    have ep := (q1.2 i (by omega)).1
    have em := (hM i (by omega)).1
    have hzi := lz_le (kg t w M A B g) i
    have X1 : ∀ (n x p v5 : Value) (st : List Value) (Q : Option Value → am_S → Prop), am_Rn L xs d 105 67 [.ref 121, .int A, n, x, p, v5, v6, v7, v8, v9] st (mk s) Q = am_Rn L xs d 105 81 [.ref 121, .int A, n, x, p, v5, v6, v7, v8, v9] (.int B :: st) (mk s) Q := by
      intro n x p v5 st Q
      rcases hA with ⟨e1, e2, e3⟩ | ⟨k, e0, e1, e2, e3⟩
      · subst e1; subst e2
        have c1 : ¬ (0 : Int32) ≤ -1 := by decide
        simp only [r105_67, r105_68, r105_71, r105_72, am_li0, am_liS, c1, if_false]
      · subst e1; subst e2
        have c1 : (0 : Int32) ≤ nI k := nI_le (a := 0) (Nat.zero_le _) (by omega)
        have c2 : am_in (nI k) 12 = true := in_of (by omega) (by decide)
        have c3 : (nI k).toNatClampNeg = k := nI_clamp (by omega)
        have c4 := (hM k (by omega)).1
        simp only [r105_67, r105_68, r105_75, r105_76, r105_79, r105_80, am_li0, am_liS, am_laR0, g121_4, a126, c1, c2, c3, c4, if_true, true_and]
    have X2 : ∀ (n x p v5 : Value) (Q : Option Value → am_S → Prop), am_Rn L xs d 105 96 [.ref 121, .int A, n, x, p, v5, v6, v7, v8, v9] [] (mk s) Q = if g = true then am_Rn L xs d 105 109 [.ref 121, .int A, n, x, p, v5, v6, v7, v8, v9] [] (mk s) Q else am_Rn L xs d 105 119 [.ref 121, .int A, n, x, p, v5, v6, v7, v8, v9] [] (mk s) Q := by
      intro n x p v5 Q
      rcases hA with ⟨e1, e2, e3⟩ | ⟨k, e0, e1, e2, e3⟩
      · subst e1
        have c1 : (-1 : Int32) < 0 := by decide
        rw [if_pos e3]
        simp only [r105_96, r105_97, am_li0, am_liS, c1, if_true]
      · subst e1
        have c1 : ¬ nI k < 0 := nI_pos (by omega)
        have c2 : am_in (nI k) 12 = true := in_of (by omega) (by decide)
        have c3 : (nI k).toNatClampNeg = k := nI_clamp (by omega)
        have c4 := (hM k (by omega)).1
        cases hk : M.1 k with
        | none =>
          rw [hk, oI_none] at c4
          have c5 : (-1 : Int32) < 0 := by decide
          rw [e3, hk, if_neg (by decide)]
          simp only [r105_96, r105_97, r105_100, r105_101, r105_104, r105_105, r105_106, am_li0, am_liS, am_laR0, g121_4, a126, c1, c2, c3, c4, c5, if_true, if_false, true_and]
        | some y =>
          rw [hk, oI_some] at c4
          have c5 : ¬ nI y < 0 := nI_pos (by have := (hp.1 k y hk).2; omega)
          rw [e3, hk, if_pos (show (some y).isSome = true from rfl)]
          simp only [r105_96, r105_97, r105_100, r105_101, r105_104, r105_105, r105_106, am_li0, am_liS, am_laR0, g121_4, a126, c1, c2, c3, c4, c5, if_false, true_and]
    have fin : ∀ (v4 v5 : Value), kg t w M A B g i = false → ∃ (s' : St) (v3 v4' v5' : Value), (∀ x, x < t.1 → kg t w M A B g x = true → s'.1 137 (lz (kg t w M A B g) x) = nI x) ∧ (∀ q, q ≠ 137 → s'.1 q = s.1 q) ∧ s'.2 = s.2 ∧ ∀ Q : Option Value → am_S → Prop, am_Rn L xs d 105 4 [.ref 121, .int A, .int (nI (lz (kg t w M A B g) i)), .int (nI (i + 1)), v4, v5, v6, v7, v8, v9] [] (mk s) Q = am_Rn L xs d 105 125 [.ref 121, .int A, .int (nI (lz (kg t w M A B g) t.1)), v3, v4', v5', v6, v7, v8, v9] [] (mk s') Q := by
      intro v4 v5 hk
      have es : lz (kg t w M A B g) (i + 1) = lz (kg t w M A B g) i := by rw [lz_s, if_neg (by rw [hk]; decide)]; rfl
      have := m_gk_loop (v6 := v6) (v7 := v7) (v8 := v8) (v9 := v9) hA m (i + 1) s v4 v5 (by omega) (by omega) hD' (fun x hx hkx => by
        by_cases e : x = i
        · rw [e, hk] at hkx; cases hkx
        · exact hg x (by omega) hkx)
      rw [es] at this
      exact this
    by_cases k1 : t.2.1 i = A
    · cases hy : M.1 i with
      | none =>
        rw [hy, oI_none] at em
        have hk : kg t w M A B g i = false := by
          unfold kg kn
          rw [hy, kO_n, Bool.and_false, Bool.false_and]
        obtain ⟨s', u3, u4, u5, r1, r2, r3, r4⟩ := fin (.int (t.2.1 i)) (.int 0) hk
        refine ⟨s', u3, u4, u5, r1, r2, r3, fun Q => ?_⟩
        have c5 : (-1 : Int32) < 0 := by decide
        rw [← r4 Q, r105_4]
        simp only [r105_5, r105_6, r105_9, r105_10, r105_13, r105_14, r105_17, r105_18, r105_21, r105_23, r105_24, r105_27, r105_28, r105_29, r105_30, r105_31, r105_33, r105_35, r105_36, r105_39, r105_40, r105_43, r105_44, r105_45, r105_88, r105_89, r105_91, r105_93, r105_119, r105_122, am_li0, am_liS, am_laR0, g121_0, g121_1, g121_4, g121_16, a122, a123, a126, q3, k1, k2, k3, q1.1, h1, i1, i2, ix12, z1, z2, ep, em, c5, nI_1, not_true, if_true, if_false, List.length_cons, List.length_nil, List.set_cons_succ, List.set_cons_zero, Nat.reduceAdd, Nat.reduceLT, Nat.reduceLeDiff, true_and]
      | some y =>
        have hyw := (hp.1 i y hy).2
        rw [hy, oI_some] at em
        have c5 : ¬ nI y < 0 := nI_pos (by omega)
        have z3 : am_in (nI (12 * j' + y)) 48 = true := in_of (by omega) (by decide)
        have z4 : (nI (12 * j' + y)).toNatClampNeg = 12 * j' + y := nI_clamp (by omega)
        have ep2 := (q2.2 y hyw).1
        by_cases hB : w.2.1 y = B
        · have n1 : ¬ (1 : Int32) = 0 := by decide
          cases hgg : g with
          | false =>
            have hk : kg t w M A B g i = false := by unfold kg; rw [hgg, Bool.and_false]
            have ng : ∀ P Q : Prop, (if false = true then P else Q) = Q := fun P Q => if_neg (by decide)
            obtain ⟨s', u3, u4, u5, r1, r2, r3, r4⟩ := fin (.int (t.2.1 i)) (.int 1) hk
            rw [hgg] at r1 r4 X2
            refine ⟨s', u3, u4, u5, r1, r2, r3, fun Q => ?_⟩
            rw [← r4 Q, r105_4]
            simp only [r105_5, r105_6, r105_9, r105_10, r105_13, r105_14, r105_17, r105_18, r105_21, r105_23, r105_24, r105_27, r105_28, r105_29, r105_30, r105_31, r105_33, r105_35, r105_36, r105_39, r105_40, r105_43, r105_44, r105_45, r105_48, r105_49, r105_52, r105_54, r105_55, r105_58, r105_59, r105_60, r105_63, r105_64, r105_65, r105_66, X1, r105_81, r105_84, r105_85, r105_88, r105_89, r105_91, r105_93, X2, r105_119, r105_122, am_li0, am_liS, am_laR0, g121_0, g121_1, g121_4, g121_16, g121_17, a122, a123, a126, q3, q4, k1, k2, k3, q1.1, h1, hB, i1, i2, ix12, z1, z2, z3, z4, ep, ep2, em, c5, n1, ng, nI_1, not_true, if_true, if_false, List.length_cons, List.length_nil, List.set_cons_succ, List.set_cons_zero, Nat.reduceAdd, Nat.reduceLT, Nat.reduceLeDiff, true_and]
          | true =>
            subst hgg
            have hk : kg t w M A B true i = true := by unfold kg; rw [Bool.and_true]; exact kn_iff.mpr ⟨k1, y, hy, hB⟩
            have es : lz (kg t w M A B true) (i + 1) = lz (kg t w M A B true) i + 1 := by rw [lz_s, if_pos hk]
            have l1 : am_in (nI (lz (kg t w M A B true) i)) 12 = true := in_of (by omega) (by decide)
            have l2 : (nI (lz (kg t w M A B true) i)).toNatClampNeg = lz (kg t w M A B true) i := nI_clamp (by omega)
            generalize hs1 : ((va_up s.1 137 (upd (s.1 137) (lz (kg t w M A B true) i) (nI i)), s.2) : St) = s1
            have f1 : ∀ q, q ≠ 137 → s1.1 q = s.1 q := fun q hq => by rw [← hs1]; exact up_ne _ _ hq
            have f2 : s1.1 137 = upd (s.1 137) (lz (kg t w M A B true) i) (nI i) := by rw [← hs1]; dsimp only; rw [up_same]
            have f3 : s1.2 = s.2 := by rw [← hs1]
            obtain ⟨s', u3, u4, u5, r1, r2, r3, r4⟩ := m_gk_loop (v6 := v6) (v7 := v7) (v8 := v8) (v9 := v9) hA m (i + 1) s1 (.int (t.2.1 i)) (.int 1) (by omega) (by omega) (mD_fr ⟨fun q hq => f1 q (by omega), f3⟩ hD') (fun x hx hkx => by
              rw [f2]
              by_cases e : x = i
              · rw [e, upd_s]
              · have := lz_lt (show x < i by omega) hkx
                rw [upd_n _ _ (by omega)]
                exact hg x (by omega) hkx)
            rw [es] at r4
            refine ⟨s', u3, u4, u5, r1, fun q hq => (r2 q hq).trans (f1 q hq), r3.trans f3, fun Q => ?_⟩
            rw [← r4 Q, ← hs1, r105_4]
            simp only [r105_5, r105_6, r105_9, r105_10, r105_13, r105_14, r105_17, r105_18, r105_21, r105_23, r105_24, r105_27, r105_28, r105_29, r105_30, r105_31, r105_33, r105_35, r105_36, r105_39, r105_40, r105_43, r105_44, r105_45, r105_48, r105_49, r105_52, r105_54, r105_55, r105_58, r105_59, r105_60, r105_63, r105_64, r105_65, r105_66, X1, r105_81, r105_84, r105_85, r105_88, r105_89, r105_91, r105_93, X2, r105_109, r105_110, r105_113, r105_114, r105_115, r105_116, r105_119, r105_122, am_li0, am_liS, am_laR0, g121_0, g121_1, g121_4, g121_15, g121_16, g121_17, a122, a123, a126, w137, q3, q4, k1, k2, k3, q1.1, h1, hB, i1, i2, l1, l2, ix12, z1, z2, z3, z4, ep, ep2, em, c5, n1, nI_1, not_true, if_true, if_false, List.length_cons, List.length_nil, List.set_cons_succ, List.set_cons_zero, Nat.reduceAdd, Nat.reduceLT, Nat.reduceLeDiff, true_and]
        · have hk : kg t w M A B g i = false := by
            unfold kg kn
            rw [hy, kO_s, decide_eq_false hB, Bool.and_false, Bool.false_and]
          obtain ⟨s', u3, u4, u5, r1, r2, r3, r4⟩ := fin (.int (t.2.1 i)) (.int 0) hk
          refine ⟨s', u3, u4, u5, r1, r2, r3, fun Q => ?_⟩
          rw [← r4 Q, r105_4]
          simp only [r105_5, r105_6, r105_9, r105_10, r105_13, r105_14, r105_17, r105_18, r105_21, r105_23, r105_24, r105_27, r105_28, r105_29, r105_30, r105_31, r105_33, r105_35, r105_36, r105_39, r105_40, r105_43, r105_44, r105_45, r105_48, r105_49, r105_52, r105_54, r105_55, r105_58, r105_59, r105_60, r105_63, r105_64, r105_65, r105_66, X1, r105_81, r105_88, r105_89, r105_91, r105_93, r105_119, r105_122, am_li0, am_liS, am_laR0, g121_0, g121_1, g121_4, g121_16, g121_17, a122, a123, a126, q3, q4, k1, k2, k3, q1.1, h1, hB, i1, i2, ix12, z1, z2, z3, z4, ep, ep2, em, c5, nI_1, not_true, not_false_eq_true, if_true, if_false, List.length_cons, List.length_nil, List.set_cons_succ, List.set_cons_zero, Nat.reduceAdd, Nat.reduceLT, Nat.reduceLeDiff, true_and]
    · have hk : kg t w M A B g i = false := by
        unfold kg kn
        rw [decide_eq_false k1, Bool.false_and, Bool.false_and]
      obtain ⟨s', u3, u4, u5, r1, r2, r3, r4⟩ := fin (.int (t.2.1 i)) (.int 0) hk
      refine ⟨s', u3, u4, u5, r1, r2, r3, fun Q => ?_⟩
      rw [← r4 Q, r105_4]
      simp only [r105_5, r105_6, r105_9, r105_10, r105_13, r105_14, r105_17, r105_18, r105_21, r105_23, r105_24, r105_27, r105_28, r105_29, r105_30, r105_31, r105_33, r105_35, r105_36, r105_88, r105_89, r105_91, r105_93, r105_119, r105_122, am_li0, am_liS, am_laR0, g121_0, g121_1, g121_16, a122, a123, q3, k1, k2, k3, q1.1, h1, i1, i2, ix12, z1, z2, ep, nI_1, not_false_eq_true, if_true, if_false, List.length_cons, List.length_nil, List.set_cons_succ, List.set_cons_zero, Nat.reduceAdd, Nat.reduceLT, Nat.reduceLeDiff, true_and]
end
/-! all sets, one after another -/
/-- a row of n: who, and their partners -/
def rwA (n : Nat) (r v : Nat → Nat) (s : St) : Prop := ∀ k, k < n → s.1 137 k = nI (r k) ∧ r k < 12 ∧ s.1 126 (r k) = nI (v k) ∧ v k < 12
/-- the last one of the set so far -/
def lsA (v : Nat → Nat) (S : Nat → Bool) (k : Nat) (l : Int32) : Prop := (l = -1 ∧ ∀ i, i < k → S i = false) ∨ ∃ b, b < k ∧ S b = true ∧ l = nI (v b) ∧ ∀ i, b < i → i < k → S i = false
def mnA (v : Nat → Nat) (S : Nat → Bool) (n k : Nat) (z : Int32) : Prop := (linc v k S ∧ z = nI (lz S k)) ∨ (¬ linc v n S ∧ ∃ j, j ≤ k ∧ z = i20 j)
theorem lsA_f {v : Nat → Nat} {S : Nat → Bool} {k : Nat} {l : Int32} (h : lsA v S k l) (hf : S k = false) : lsA v S (k + 1) l := by
  rcases h with ⟨h1, h2⟩ | ⟨b, b1, b2, b3, b4⟩
  · refine Or.inl ⟨h1, fun i hi => ?_⟩
    by_cases e : i = k
    · rw [e]; exact hf
    · exact h2 i (by omega)
  · refine Or.inr ⟨b, by omega, b2, b3, fun i i1 i2 => ?_⟩
    by_cases e : i = k
    · rw [e]; exact hf
    · exact b4 i i1 (by omega)
theorem lsA_t {v : Nat → Nat} {S : Nat → Bool} {k : Nat} (hf : S k = true) : lsA v S (k + 1) (nI (v k)) := Or.inr ⟨k, by omega, hf, rfl, fun i i1 i2 => by omega⟩
theorem mnA_f {v : Nat → Nat} {S : Nat → Bool} {n k : Nat} {z : Int32} (h : mnA v S n k z) (hf : S k = false) : mnA v S n (k + 1) z := by
  rcases h with ⟨h1, h2⟩ | ⟨h1, j, h2, h3⟩
  · refine Or.inl ⟨fun i j a1 a2 a3 a4 => ?_, by rw [lz_s, if_neg (by rw [hf]; decide)]; exact h2⟩
    by_cases e : j = k
    · rw [e, hf] at a4; cases a4
    · exact h1 i j a1 (by omega) a3 a4
  · exact Or.inr ⟨h1, j, by omega, h3⟩
/-- the next one fits -/
theorem mnA_t {v : Nat → Nat} {S : Nat → Bool} {n k : Nat} {l z : Int32} (h : mnA v S n k z) (hl : lsA v S k l) (hf : S k = true) (hk : k < 12) (hv : ∀ i, i ≤ k → v i < 12) (hc : ¬ nI (v k) ≤ l) : mnA v S n (k + 1) (z + 1) := by
  rcases h with ⟨h1, h2⟩ | ⟨h1, j, h2, h3⟩
  · refine Or.inl ⟨fun i j a1 a2 a3 a4 => ?_, by rw [lz_s, if_pos hf, h2, nI_1]⟩
    by_cases e : j = k
    · subst e
      rcases hl with ⟨q1, q2⟩ | ⟨b, b1, b2, b3, b4⟩
      · rw [q2 i a1] at a3; cases a3
      · have h5 : v b < v j := Classical.byContradiction fun q => hc (by rw [b3]; exact nI_le (by omega) (by have := hv b (by omega); omega))
        rcases Nat.lt_trichotomy i b with e | e | e
        · have := h1 i b e b1 a3 b2; omega
        · rw [e]; exact h5
        · rw [b4 i e a1] at a3; cases a3
    · exact h1 i j a1 (by omega) a3 a4
  · refine Or.inr ⟨h1, j + 1, by omega, ?_⟩
    rw [h3]; exact (i20_k ⟨j, by omega⟩).1
theorem mnA_b {v : Nat → Nat} {S : Nat → Bool} {n k : Nat} {l : Int32} (hl : lsA v S k l) (hf : S k = true) (hk : k < n) (hv : ∀ i, i ≤ k → v i < 12) (hc : nI (v k) ≤ l) : mnA v S n (k + 1) (-20) := by
  refine Or.inr ⟨fun q => ?_, 0, by omega, (i20_k ⟨0, by decide⟩).2.2.symm⟩
  rcases hl with ⟨q1, q2⟩ | ⟨b, b1, b2, b3, b4⟩
  · rw [q1] at hc
    have e1 : (-1 : Int32).toInt = -1 := by decide
    rw [Int32.le_iff_toInt_le, nI_toInt (by have := hv k (Nat.le_refl _); omega), e1] at hc
    omega
  · have := q b k b1 hk b2 hf
    rw [b3] at hc
    exact nI_ge this (by have := hv k (Nat.le_refl _); omega) hc
section
variable {L : Nat} {xs : Nat → Int32} {d : Nat} {s : St}
theorem m_st_in {n c : Nat} {r v : Nat → Nat} {A v3 v4 v9 : Value} (hn : n ≤ 12) (hc : c < 2 ^ 12) (hR : rwA n r v s) : ∀ (m k : Nat) (l z : Int32), n - k = m → k ≤ n → lsA v c.testBit k l → mnA v c.testBit n k z →
    ∃ (l' z' : Int32), mnA v c.testBit n n z' ∧ ∀ Q : Option Value → am_S → Prop, am_Rn L xs d 105 150 [.ref 121, A, .int (nI n), v3, v4, .int (nI c), .int l, .int z, .int (nI k), v9] [] (mk s) Q = am_Rn L xs d 105 215 [.ref 121, A, .int (nI n), v3, v4, .int (nI c), .int l', .int z', .int (nI n), v9] [] (mk s) Q
  | 0, k, l, z, hm, hk, hl, hz => by
    have e : k = n := by omega
    subst e
    refine ⟨l, z, hz, fun Q => ?_⟩
    have h1 : nI k ≤ nI k := nI_le (Nat.le_refl _) (by omega)
    rw [r105_150]
    simp only [r105_152, r105_153, am_li0, am_liS, h1, if_true]
  | m + 1, k, l, z, hm, hk, hl, hz => by
    have h1 : ¬ nI n ≤ nI k := nI_ge (by omega) (by omega)
    have k1 : am_in (nI k) 12 = true := in_of (by omega) (by decide)
    have k2 : (nI k).toNatClampNeg = k := nI_clamp (by omega)
    have hb := nI_bit (v := c) (n := k) (by omega) (by omega)
    obtain ⟨r1, r2, r3, r4⟩ := hR k (by omega)
    have x1 : am_in (nI (r k)) 12 = true := in_of (by omega) (by decide)
    have x2 : (nI (r k)).toNatClampNeg = r k := nI_clamp (by omega)
    have hv : ∀ i, i ≤ k → v i < 12 := fun i hi => (hR i (by omega)).2.2.2
    cases hf : c.testBit k with
    | false =>
      obtain ⟨l', z', q1, q2⟩ := m_st_in (A := A) (v3 := v3) (v4 := v4) (v9 := v9) hn hc hR m (k + 1) l z (by omega) (by omega) (lsA_f hl hf) (mnA_f hz hf)
      refine ⟨l', z', q1, fun Q => ?_⟩
      rw [hf] at hb
      have b0 : ¬ bI false = 1 := by decide
      rw [← q2 Q, r105_150]
      simp only [r105_152, r105_153, r105_156, r105_158, r105_160, r105_161, r105_162, r105_163, r105_164, r105_209, r105_212, am_li0, am_liS, h1, hb, b0, nI_1, not_false_eq_true, if_true, if_false, List.length_cons, List.length_nil, List.set_cons_succ, List.set_cons_zero, Nat.reduceAdd, Nat.reduceLT, Nat.reduceLeDiff, true_and]
    | true =>
      rw [hf] at hb
      have b1 : bI true = 1 := rfl
      by_cases hcc : nI (v k) ≤ l
      · obtain ⟨l', z', q1, q2⟩ := m_st_in (A := A) (v3 := v3) (v4 := v4) (v9 := v9) hn hc hR m (k + 1) (nI (v k)) (-20) (by omega) (by omega) (lsA_t hf) (mnA_b hl hf (by omega) hv hcc)
        refine ⟨l', z', q1, fun Q => ?_⟩
        rw [← q2 Q, r105_150]
        simp only [r105_152, r105_153, r105_156, r105_158, r105_160, r105_161, r105_162, r105_163, r105_164, r105_167, r105_169, r105_170, r105_173, r105_174, r105_177, r105_179, r105_180, r105_181, r105_191, r105_193, r105_195, r105_196, r105_199, r105_200, r105_203, r105_205, r105_206, r105_207, r105_209, r105_212, am_li0, am_liS, am_laR0, g121_4, g121_15, a126, a137, h1, hb, b1, k1, k2, r1, r3, x1, x2, hcc, nI_1, not_true, if_true, if_false, List.length_cons, List.length_nil, List.set_cons_succ, List.set_cons_zero, Nat.reduceAdd, Nat.reduceLT, Nat.reduceLeDiff, true_and]
      · obtain ⟨l', z', q1, q2⟩ := m_st_in (A := A) (v3 := v3) (v4 := v4) (v9 := v9) hn hc hR m (k + 1) (nI (v k)) (z + 1) (by omega) (by omega) (lsA_t hf) (mnA_t hz hl hf (by omega) hv hcc)
        refine ⟨l', z', q1, fun Q => ?_⟩
        rw [← q2 Q, r105_150]
        simp only [r105_152, r105_153, r105_156, r105_158, r105_160, r105_161, r105_162, r105_163, r105_164, r105_167, r105_169, r105_170, r105_173, r105_174, r105_177, r105_179, r105_180, r105_181, r105_184, r105_186, r105_187, r105_188, r105_193, r105_195, r105_196, r105_199, r105_200, r105_203, r105_205, r105_206, r105_207, r105_209, r105_212, am_li0, am_liS, am_laR0, g121_4, g121_15, a126, a137, h1, hb, b1, k1, k2, r1, r3, x1, x2, hcc, nI_1, not_true, if_true, if_false, List.length_cons, List.length_nil, List.set_cons_succ, List.set_cons_zero, Nat.reduceAdd, Nat.reduceLT, Nat.reduceLeDiff, true_and]
theorem m_st_sets {n : Nat} {r v : Nat → Nat} {A : Value} (hn : n ≤ 12) (hR : rwA n r v s) : ∀ (m c p : Nat) (v6 v7 v8 v9 : Value), 2 ^ n - c = m → c ≤ 2 ^ n → rJ v n c p →
    ∃ (p' : Nat) (u4 u6 u7 u8 u9 : Value), rJ v n (2 ^ n) p' ∧ ∀ Q : Option Value → am_S → Prop, am_Rn L xs d 105 133 [.ref 121, A, .int (nI n), .int (nI p), .int (nI (lz p.testBit n)), .int (nI c), v6, v7, v8, v9] [] (mk s) Q = am_Rn L xs d 105 277 [.ref 121, A, .int (nI n), .int (nI p'), u4, .int (nI (2 ^ n)), u6, u7, u8, u9] [] (mk s) Q := by
  have hn2 : 2 ^ n ≤ 2 ^ 12 := Nat.pow_le_pow_right (by decide) hn
  have hsh : (1 : Int32) <<< (nI n &&& 31) = nI (2 ^ n) := nI_shl2 ⟨n, by omega⟩
  intro m
  induction m with
  | zero =>
    intro c p v6 v7 v8 v9 hm hc hJ
    have e : c = 2 ^ n := by omega
    subst e
    refine ⟨p, .int (nI (lz p.testBit n)), v6, v7, v8, v9, hJ, fun Q => ?_⟩
    have h1 : nI (2 ^ n) ≤ nI (2 ^ n) := nI_le (Nat.le_refl _) (by omega)
    rw [r105_133]
    simp only [r105_135, r105_136, r105_137, r105_138, am_li0, am_liS, hsh, h1, if_true]
  | succ m ih =>
    intro c p v6 v7 v8 v9 hm hc hJ
    have h1 : ¬ nI (2 ^ n) ≤ nI c := nI_ge (by omega) (by omega)
    have hp12 : p < 2 ^ n := hJ.1
    obtain ⟨l', z', q1, q2⟩ := m_st_in (L := L) (xs := xs) (d := d) (s := s) (c := c) (A := A) (v3 := .int (nI p)) (v4 := .int (nI (lz p.testBit n))) (v9 := v9) hn (by omega) hR n 0 (-1) 0 rfl (Nat.zero_le _) (Or.inl ⟨rfl, fun i hi => absurd hi (Nat.not_lt_zero _)⟩) (Or.inl ⟨fun i j _ hj => absurd hj (Nat.not_lt_zero _), rfl⟩)
    have q2 : ∀ Q : Option Value → am_S → Prop, am_Rn L xs d 105 150 [.ref 121, A, .int (nI n), .int (nI p), .int (nI (lz p.testBit n)), .int (nI c), .int (-1), .int 0, .int 0, v9] [] (mk s) Q = _ := q2
    have hlt := low_tst hn (show c < 2 ^ n by omega) hp12
    have zp := lz_le p.testBit n
    have zc := lz_le c.testBit n
    have n1 : ¬ (1 : Int32) = 0 := by decide
    -- whether c is better
    by_cases hb : linc v n c.testBit ∧ (lz p.testBit n < lz c.testBit n ∨ (lz p.testBit n = lz c.testBit n ∧ llx n c.testBit p.testBit))
    · obtain ⟨b1, b2⟩ := hb
      have ez : z' = nI (lz c.testBit n) := by
        rcases q1 with ⟨-, e⟩ | ⟨e, -⟩
        · exact e
        · exact absurd b1 e
      subst ez
      have y := rJ_y hJ (by omega) b1 b2
      have go : ∀ v9, ∃ (p' : Nat) (u4 u6 u7 u8 u9 : Value), rJ v n (2 ^ n) p' ∧ ∀ Q : Option Value → am_S → Prop, am_Rn L xs d 105 133 [.ref 121, A, .int (nI n), .int (nI c), .int (nI (lz c.testBit n)), .int (nI (c + 1)), .int l', .int (nI (lz c.testBit n)), .int (nI c ^^^ nI p), v9] [] (mk s) Q = am_Rn L xs d 105 277 [.ref 121, A, .int (nI n), .int (nI p'), u4, .int (nI (2 ^ n)), u6, u7, u8, u9] [] (mk s) Q := fun v9 => ih (c + 1) c _ _ _ _ (by omega) (by omega) y
      by_cases ht : (nI c &&& (nI c ^^^ nI p)) &&& -(nI c ^^^ nI p) = 0
      · have hg : nI (lz p.testBit n) < nI (lz c.testBit n) := by
          rcases b2 with b2 | ⟨-, b2⟩
          · exact nI_lt b2 (by omega)
          · exact absurd b2 (hlt.mp ht)
        obtain ⟨p', u4, u6, u7, u8, u9, r1, r2⟩ := go (.int 0)
        refine ⟨p', u4, u6, u7, u8, u9, r1, fun Q => ?_⟩
        rw [← r2 Q, r105_133]
        simp only [r105_135, r105_136, r105_137, r105_138, r105_141, r105_142, r105_144, r105_145, r105_147, r105_148, q2, r105_215, r105_217, r105_218, r105_219, r105_221, r105_223, r105_225, r105_226, r105_228, r105_229, r105_230, r105_237, r105_238, r105_240, r105_242, r105_244, r105_264, r105_266, r105_267, r105_269, r105_271, r105_274, am_li0, am_liS, hsh, h1, ht, hg, nI_1, if_true, if_false, List.length_cons, List.length_nil, List.set_cons_succ, List.set_cons_zero, Nat.reduceAdd, Nat.reduceLT, Nat.reduceLeDiff, true_and]
      · obtain ⟨p', u4, u6, u7, u8, u9, r1, r2⟩ := go (.int 1)
        refine ⟨p', u4, u6, u7, u8, u9, r1, fun Q => ?_⟩
        rw [← r2 Q, r105_133]
        by_cases hg : nI (lz p.testBit n) < nI (lz c.testBit n)
        · simp only [r105_135, r105_136, r105_137, r105_138, r105_141, r105_142, r105_144, r105_145, r105_147, r105_148, q2, r105_215, r105_217, r105_218, r105_219, r105_221, r105_223, r105_225, r105_226, r105_228, r105_229, r105_230, r105_233, r105_234, r105_238, r105_240, r105_242, r105_244, r105_264, r105_266, r105_267, r105_269, r105_271, r105_274, am_li0, am_liS, hsh, h1, ht, hg, nI_1, if_true, if_false, List.length_cons, List.length_nil, List.set_cons_succ, List.set_cons_zero, Nat.reduceAdd, Nat.reduceLT, Nat.reduceLeDiff, true_and]
        · have he : lz p.testBit n = lz c.testBit n := by
            rcases b2 with b2 | ⟨b2, -⟩
            · exact absurd (nI_lt b2 (by omega)) hg
            · exact b2
          have h0 : ¬ nI (lz c.testBit n) ≤ 0 := by
            have hx : llx n c.testBit p.testBit := Classical.byContradiction fun q => ht (hlt.mpr q)
            obtain ⟨i, i1, i2, -⟩ := hx
            have := lz_lt i1 i2
            exact nI_nle (by omega) (by omega)
          rw [he] at hg
          rw [he] at q2
          rw [he]
          simp only [r105_135, r105_136, r105_137, r105_138, r105_141, r105_142, r105_144, r105_145, r105_147, r105_148, q2, r105_215, r105_217, r105_218, r105_219, r105_221, r105_223, r105_225, r105_226, r105_228, r105_229, r105_230, r105_233, r105_234, r105_238, r105_240, r105_242, r105_244, r105_247, r105_249, r105_251, r105_254, r105_256, r105_259, r105_261, r105_264, r105_266, r105_267, r105_269, r105_271, r105_274, am_li0, am_liS, hsh, h1, h0, ht, hg, n1, nI_1, not_true, if_true, if_false, List.length_cons, List.length_nil, List.set_cons_succ, List.set_cons_zero, Nat.reduceAdd, Nat.reduceLT, Nat.reduceLeDiff, true_and]
    · have y := rJ_n hJ (by omega) hb
      have go : ∀ v9, ∃ (p' : Nat) (u4 u6 u7 u8 u9 : Value), rJ v n (2 ^ n) p' ∧ ∀ Q : Option Value → am_S → Prop, am_Rn L xs d 105 133 [.ref 121, A, .int (nI n), .int (nI p), .int (nI (lz p.testBit n)), .int (nI (c + 1)), .int l', .int z', .int (nI c ^^^ nI p), v9] [] (mk s) Q = am_Rn L xs d 105 277 [.ref 121, A, .int (nI n), .int (nI p'), u4, .int (nI (2 ^ n)), u6, u7, u8, u9] [] (mk s) Q := fun v9 => ih (c + 1) p _ _ _ _ (by omega) (by omega) y
      have hg : ¬ nI (lz p.testBit n) < z' := by
        rcases q1 with ⟨e1, e2⟩ | ⟨e1, j, e2, e3⟩
        · rw [e2]
          exact nI_nlt (by
            refine Classical.byContradiction fun q => hb ⟨e1, Or.inl (by omega)⟩) (by omega)
        · rw [e3]
          intro q
          have a1 := (i20_k ⟨j, by omega⟩).2.1
          have a2 : i20 j < 0 := a1
          rw [Int32.lt_iff_toInt_lt] at q a2
          rw [nI_toInt (by omega)] at q
          have h00 : (0 : Int32).toInt = 0 := rfl
          omega
      by_cases ht : (nI c &&& (nI c ^^^ nI p)) &&& -(nI c ^^^ nI p) = 0
      · obtain ⟨p', u4, u6, u7, u8, u9, r1, r2⟩ := go (.int 0)
        refine ⟨p', u4, u6, u7, u8, u9, r1, fun Q => ?_⟩
        rw [← r2 Q, r105_133]
        by_cases he : z' = nI (lz p.testBit n)
        · by_cases h0 : z' ≤ 0
          · subst he
            simp only [r105_135, r105_136, r105_137, r105_138, r105_141, r105_142, r105_144, r105_145, r105_147, r105_148, q2, r105_215, r105_217, r105_218, r105_219, r105_221, r105_223, r105_225, r105_226, r105_228, r105_229, r105_230, r105_237, r105_238, r105_240, r105_242, r105_244, r105_247, r105_249, r105_251, r105_254, r105_256, r105_271, r105_274, am_li0, am_liS, hsh, h1, ht, hg, h0, nI_1, not_true, if_true, if_false, List.length_cons, List.length_nil, List.set_cons_succ, List.set_cons_zero, Nat.reduceAdd, Nat.reduceLT, Nat.reduceLeDiff, true_and]
          · subst he
            simp only [r105_135, r105_136, r105_137, r105_138, r105_141, r105_142, r105_144, r105_145, r105_147, r105_148, q2, r105_215, r105_217, r105_218, r105_219, r105_221, r105_223, r105_225, r105_226, r105_228, r105_229, r105_230, r105_237, r105_238, r105_240, r105_242, r105_244, r105_247, r105_249, r105_251, r105_254, r105_256, r105_259, r105_261, r105_271, r105_274, am_li0, am_liS, hsh, h1, ht, hg, h0, nI_1, not_true, if_true, if_false, List.length_cons, List.length_nil, List.set_cons_succ, List.set_cons_zero, Nat.reduceAdd, Nat.reduceLT, Nat.reduceLeDiff, true_and]
        · simp only [r105_135, r105_136, r105_137, r105_138, r105_141, r105_142, r105_144, r105_145, r105_147, r105_148, q2, r105_215, r105_217, r105_218, r105_219, r105_221, r105_223, r105_225, r105_226, r105_228, r105_229, r105_230, r105_237, r105_238, r105_240, r105_242, r105_244, r105_247, r105_249, r105_251, r105_271, r105_274, am_li0, am_liS, hsh, h1, ht, hg, he, nI_1, not_false_eq_true, if_true, if_false, List.length_cons, List.length_nil, List.set_cons_succ, List.set_cons_zero, Nat.reduceAdd, Nat.reduceLT, Nat.reduceLeDiff, true_and]
      · obtain ⟨p', u4, u6, u7, u8, u9, r1, r2⟩ := go (.int 1)
        refine ⟨p', u4, u6, u7, u8, u9, r1, fun Q => ?_⟩
        rw [← r2 Q, r105_133]
        by_cases he : z' = nI (lz p.testBit n)
        · have h0 : z' ≤ 0 := by
            have hx : llx n c.testBit p.testBit := Classical.byContradiction fun q => ht (hlt.mpr q)
            obtain ⟨i, i1, i2, -⟩ := hx
            rcases q1 with ⟨e1, e2⟩ | ⟨e1, j, e2, e3⟩
            · have e4 : lz p.testBit n = lz c.testBit n := ((nI_eq (by omega) (by omega)).mp (e2.symm.trans he)).symm
              exact absurd ⟨e1, Or.inr ⟨e4, Classical.byContradiction fun q => ht (hlt.mpr q)⟩⟩ hb
            · have a1 := (i20_k ⟨j, by omega⟩).2.1
              rw [e3]
              exact Int32.le_of_lt a1
          subst he
          simp only [r105_135, r105_136, r105_137, r105_138, r105_141, r105_142, r105_144, r105_145, r105_147, r105_148, q2, r105_215, r105_217, r105_218, r105_219, r105_221, r105_223, r105_225, r105_226, r105_228, r105_229, r105_230, r105_233, r105_234, r105_238, r105_240, r105_242, r105_244, r105_247, r105_249, r105_251, r105_254, r105_256, r105_271, r105_274, am_li0, am_liS, hsh, h1, ht, hg, h0, nI_1, not_true, if_true, if_false, List.length_cons, List.length_nil, List.set_cons_succ, List.set_cons_zero, Nat.reduceAdd, Nat.reduceLT, Nat.reduceLeDiff, true_and]
        · simp only [r105_135, r105_136, r105_137, r105_138, r105_141, r105_142, r105_144, r105_145, r105_147, r105_148, q2, r105_215, r105_217, r105_218, r105_219, r105_221, r105_223, r105_225, r105_226, r105_228, r105_229, r105_230, r105_233, r105_234, r105_238, r105_240, r105_242, r105_244, r105_247, r105_249, r105_251, r105_271, r105_274, am_li0, am_liS, hsh, h1, ht, hg, he, nI_1, not_false_eq_true, if_true, if_false, List.length_cons, List.length_nil, List.set_cons_succ, List.set_cons_zero, Nat.reduceAdd, Nat.reduceLT, Nat.reduceLeDiff, true_and]
end
