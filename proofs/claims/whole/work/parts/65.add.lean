/-! add, both sides, on any tree -/
section
variable {L : Nat} {xs : Nat → Int32} {d : Nat} {s : St} {Q : Option Value → am_S → Prop}
theorem hasT {p : Nat} {t : Tr} (hc : cT s p t) (hw : tW t) {x : Int32} : (∃ i, i < t.1 ∧ x = nI i ∧ ¬ s.1 (p + 1) i = -2) ↔ ∃ i, i < t.1 ∧ x = nI i := by
  constructor
  · rintro ⟨i, h1, h2, -⟩; exact ⟨i, h1, h2⟩
  · rintro ⟨i, h1, h2⟩; exact ⟨i, h1, h2, by rw [(hc.2.1 i h1).1]; exact tW_ne2 hw h1⟩
/-- has on a tree -/
theorem c_hasT {p : Nat} {t : Tr} (hF : isF p 12) (hc : cT s p t) (hw : tW t) {x : Int32} (hx : ∃ i, i < t.1 ∧ x = nI i) : am_Call L xs d 9 [.ref p, .int x] (mk s) Q = Q (some (.int 1)) (mk s) := by
  rw [c_has hF (by decide) hc.1 hw.1, if_pos ((hasT hc hw).mpr hx)]
theorem c_hasF {p : Nat} {t : Tr} (hF : isF p 12) (hc : cT s p t) (hw : tW t) {x : Int32} (hx : ¬ ∃ i, i < t.1 ∧ x = nI i) : am_Call L xs d 9 [.ref p, .int x] (mk s) Q = Q (some (.int 0)) (mk s) := by
  rw [c_has hF (by decide) hc.1 hw.1, if_neg (fun h => hx ((hasT hc hw).mp h))]
theorem c_addNo {j : Nat} {t : Tr} (h : j < 3) (hc : cT s (2 + 5 * j) t) (hw : tW t) {a k l : Int32} (hk : ¬ k < 0) (hk8 : k < 8) (ha : ¬ (tFit t a ∧ t.1 < 12)) :
    am_Call L xs (d + 2) 7 [.ref 0, .int (nI j), .int a, .int k, .int l] (mk s) Q = Q (some (.int (-1))) (mk s) := by
  have hF := isF_t h
  have h1 : ¬ (1 : Int32) = 0 := by decide
  have h12 := hw.1
  by_cases hu0 : t.1 = 0
  · have c1' : s.2.1 (2 + 5 * j) 4 = 0 := by rw [hc.1, hu0]; rfl
    have ha1 : ¬ a = -1 := fun e => ha ⟨Or.inl ⟨hu0, e⟩, by omega⟩
    exact c_add0P h c1' hk hk8 ha1
  · have hne : ¬ nI t.1 = 0 := nI_ne0 (by omega) (by omega)
    by_cases hf : ∃ i, i < t.1 ∧ a = nI i
    · have hu : t.1 = 12 := by
        by_cases e : t.1 < 12
        · exact absurd ⟨Or.inr hf, e⟩ ha
        · omega
      have h13 : ¬ nI t.1 < 12 := by rw [hu]; decide
      simp only [e7, r7_0, r7_1, r7_4, r7_7, r7_8, r7_11, r7_12, r7_14, r7_17, r7_18, r7_19, r7_20, r7_23, r7_24, r7_25, r7_27, r7_29, r7_32, r7_35, r7_36, r7_37, r7_40, r7_41, r7_44, r7_45, r7_48, r7_50, r7_51, r7_54, r7_56, r7_58, r7_61, r7_63, r7_66, r7_68, r7_71, r7_72, am_li0, am_liS, am_laR0, am_laS, c_isTree1 h, am_tL, am_tN, h1, hne, hk, hk8, not_true, not_false_eq_true, g0_0, t_tree h, f_used hF, f_oc hF, hc.1, h13, c_hasT hF hc hw hf, if_true, if_false, am_okI, am_okR, List.length_cons, List.length_nil, List.set_cons_succ, List.set_cons_zero, Nat.reduceAdd, Nat.reduceLT, Nat.reduceLeDiff, Nat.zero_le, and_true, true_and]
    · simp only [e7, r7_0, r7_1, r7_4, r7_7, r7_8, r7_11, r7_12, r7_14, r7_17, r7_18, r7_19, r7_20, r7_23, r7_24, r7_25, r7_27, r7_29, r7_32, r7_35, r7_36, r7_37, r7_40, r7_41, r7_44, r7_45, r7_48, r7_50, r7_51, r7_54, r7_56, r7_58, r7_61, r7_63, r7_66, r7_68, r7_71, r7_72, am_li0, am_liS, am_laR0, am_laS, c_isTree1 h, am_tL, am_tN, h1, hne, hk, hk8, not_true, not_false_eq_true, g0_0, t_tree h, f_used hF, f_oc hF, hc.1, c_hasF hF hc hw hf, if_true, if_false, am_okI, am_okR, List.length_cons, List.length_nil, List.set_cons_succ, List.set_cons_zero, Nat.reduceAdd, Nat.reduceLT, Nat.reduceLeDiff, Nat.zero_le, and_true, true_and]
/-! the reference -/
theorem m_isNodeT {j u : Nat} (h : j < 3) (hm : s.1 122 j = nI u) (hu : u ≤ 12) {b : Int32} (hb : ∃ i, i < u ∧ b = nI i) : am_Call L xs (d + 1) 86 [.ref 121, .int (nI j), .int b] (mk s) Q = Q (some (.int 1)) (mk s) := by
  obtain ⟨i, hi, rfl⟩ := hb
  have h1 : ¬ (1 : Int32) = 0 := by decide
  have h2 : am_in (nI j) 4 = true := in_of (by omega) (by decide)
  have h3 : (nI j).toNatClampNeg = j := nI_clamp (by omega)
  have h4 : ¬ nI i < 0 := nI_pos (by omega)
  have h5 : ¬ nI u ≤ nI i := nI_ge hi (by omega)
  simp only [e86, r86_0, r86_1, r86_4, r86_7, r86_8, r86_11, r86_12, r86_13, r86_16, r86_17, r86_18, r86_21, r86_22, r86_25, r86_26, am_li0, am_liS, am_laR0, m_isTree1 h, am_tL, h1, h2, h3, h4, h5, hm, g121_0, a122, if_true, if_false, am_okI, List.length_nil, Nat.zero_le, and_true, true_and, or_true, eq_self]
theorem m_isNodeF {j u : Nat} (h : j < 3) (hm : s.1 122 j = nI u) (hu : u ≤ 12) {b : Int32} (hb : ¬ ∃ i, i < u ∧ b = nI i) : am_Call L xs (d + 1) 86 [.ref 121, .int (nI j), .int b] (mk s) Q = Q (some (.int 0)) (mk s) := by
  have h1 : ¬ (1 : Int32) = 0 := by decide
  have h2 : am_in (nI j) 4 = true := in_of (by omega) (by decide)
  have h3 : (nI j).toNatClampNeg = j := nI_clamp (by omega)
  by_cases hb0 : b < 0
  · simp only [e86, r86_0, r86_1, r86_4, r86_7, r86_8, r86_11, r86_12, r86_13, r86_16, r86_17, r86_18, r86_21, r86_22, r86_25, r86_26, am_li0, am_liS, am_laR0, m_isTree1 h, am_tL, h1, hb0, if_true, if_false, am_okI, List.length_nil, Nat.zero_le, and_true, true_and, true_or, eq_self]
  · have hb2 : nI u ≤ b := by
      rcases pk_ix b (n := u) (by omega) with q | q | q
      · exact absurd q hb0
      · exact q
      · exact absurd q hb
    simp only [e86, r86_0, r86_1, r86_4, r86_7, r86_8, r86_11, r86_12, r86_13, r86_16, r86_17, r86_18, r86_21, r86_22, r86_25, r86_26, am_li0, am_liS, am_laR0, m_isTree1 h, am_tL, h1, h2, h3, hb0, hb2, hm, g121_0, a122, if_true, if_false, am_okI, List.length_nil, Nat.zero_le, and_true, true_and, true_or, eq_self]
theorem m_addNo {j : Nat} {t : Tr} (h : j < 3) (hm : mT s j t) (hw : tW t) {a k l : Int32} (hk : ¬ k < 0) (hk8 : k < 8) (ha : ¬ (tFit t a ∧ t.1 < 12)) :
    am_Call L xs (d + 2) 84 [.ref 121, .int (nI j), .int a, .int k, .int l] (mk s) Q = Q (some (.int (-1))) (mk s) := by
  have h1 : ¬ (1 : Int32) = 0 := by decide
  have h2 : am_in (nI j) 4 = true := in_of (by omega) (by decide)
  have h3 : (nI j).toNatClampNeg = j := nI_clamp (by omega)
  have h12 := hw.1
  by_cases hu : t.1 = 12
  · have e : nI t.1 = 12 := by rw [hu]; rfl
    simp only [e84, r84_0, r84_1, r84_4, r84_7, r84_8, r84_11, r84_12, r84_14, r84_17, r84_18, r84_21, r84_22, r84_23, r84_25, r84_28, r84_29, am_li0, am_liS, am_laR0, m_isTree1 h, am_tL, h1, h2, h3, hk, k7' hk8, hm.1, e, g121_0, a122, not_true, if_true, if_false, am_okI, List.length_nil, Nat.zero_le, and_true, true_and]
  · have e : ¬ nI t.1 = 12 := fun q => hu ((nI_eq (b := 12) (by omega) (by decide)).mp q)
    by_cases ha1 : a = -1
    · have hu0 : ¬ t.1 = 0 := fun q => ha ⟨Or.inl ⟨q, ha1⟩, by omega⟩
      have e2 : ¬ nI t.1 ≤ 0 := nI_nle (by omega) (by omega)
      subst ha1
      have hm1 : ((-1 : Int32) = -1) = True := eq_self _
      simp only [e84, r84_0, r84_1, r84_4, r84_7, r84_8, r84_11, r84_12, r84_14, r84_17, r84_18, r84_21, r84_22, r84_23, r84_25, r84_28, r84_29, r84_30, r84_31, r84_32, r84_35, r84_36, r84_39, r84_40, r84_41, r84_44, r84_47, r84_48, r84_49, r84_50, r84_53, r84_56, r84_57, am_li0, am_liS, am_laR0, m_isTree1 h, am_tL, h1, h2, h3, hk, k7' hk8, hm.1, e, e2, hm1, g121_0, a122, not_true, not_false_eq_true, if_true, if_false, am_okI, List.length_nil, Nat.zero_le, and_true, true_and]
    · have hf : ¬ ∃ i, i < t.1 ∧ a = nI i := fun q => ha ⟨Or.inr q, by omega⟩
      simp only [e84, r84_0, r84_1, r84_4, r84_7, r84_8, r84_11, r84_12, r84_14, r84_17, r84_18, r84_21, r84_22, r84_23, r84_25, r84_28, r84_29, r84_30, r84_31, r84_32, r84_35, r84_36, r84_39, r84_40, r84_41, r84_44, r84_47, r84_48, r84_49, r84_50, r84_53, r84_56, r84_57, am_li0, am_liS, am_laR0, m_isTree1 h, m_isNodeF h hm.1 h12 hf, m_oc, am_tL, h1, h2, h3, hk, k7' hk8, hm.1, e, ha1, g121_0, a122, not_true, not_false_eq_true, if_true, if_false, am_okI, List.length_nil, Nat.zero_le, and_true, true_and]
/-- only the reference's trees have changed -/
def frM (s s' : St) : Prop := (∀ q, ¬ (122 ≤ q ∧ q ≤ 125) → s'.1 q = s.1 q) ∧ s'.2 = s.2
theorem m_addOk {j : Nat} {t : Tr} (h : j < 3) (hm : mT s j t) (hw : tW t) (hu : t.1 < 12) {a k l : Int32} (ha : tFit t a) (hk : ¬ k < 0) (hk8 : k < 8) :
    ∃ s' : St, (∀ Q : Option Value → am_S → Prop, am_Call L xs (d + 2) 84 [.ref 121, .int (nI j), .int a, .int k, .int l] (mk s) Q = Q (some (.int (nI t.1))) (mk s')) ∧ mT s' j (tAdd t a k l) ∧ frM s s' ∧ ∀ (i : Nat) (w : Tr), i ≠ j → w.1 ≤ 12 → mT s i w → mT s' i w := by
  obtain ⟨u, pr, ty, lb⟩ := t
  obtain ⟨m1, m2⟩ := hm
  dsimp only at m1 m2 hu ⊢
  have h1 : ¬ (1 : Int32) = 0 := by decide
  have h2 : am_in (nI j) 4 = true := in_of (by omega) (by decide)
  have h3 : (nI j).toNatClampNeg = j := nI_clamp (by omega)
  have h4 : ¬ nI u = 12 := fun q => by
    have := (nI_eq (b := 12) (by omega) (by decide)).mp q
    omega
  have e12 : (12 : Int32) * nI j + nI u = nI (12 * j + u) := by
    show nI 12 * nI j + nI u = _
    rw [pk_mul, nI_add]
  have h6 : am_in (nI (12 * j + u)) 48 = true := in_of (by omega) (by decide)
  have h7 : (nI (12 * j + u)).toNatClampNeg = 12 * j + u := nI_clamp (by omega)
  have h9 : ∀ (f : Nat → Int32) (v : Int32), upd f j v j = v := fun f v => by simp [upd]
  have h10 : nI (u + 1) - 1 = nI u := nI_pred u
  generalize hA : va_up (va_up (va_up (va_up s.1 123 (upd (s.1 123) (12 * j + u) a)) 124 (upd (s.1 124) (12 * j + u) k)) 125 (upd (s.1 125) (12 * j + u) l)) 122 (upd (s.1 122) j (nI (u + 1))) = A'
  have f2 : A' 122 = upd (s.1 122) j (nI (u + 1)) := by rw [← hA, up_same]
  have f3 : A' 123 = upd (s.1 123) (12 * j + u) a := by rw [← hA, up_ne _ _ (by decide), up_ne _ _ (by decide), up_ne _ _ (by decide), up_same]
  have f4 : A' 124 = upd (s.1 124) (12 * j + u) k := by rw [← hA, up_ne _ _ (by decide), up_ne _ _ (by decide), up_same]
  have f5 : A' 125 = upd (s.1 125) (12 * j + u) l := by rw [← hA, up_ne _ _ (by decide), up_same]
  refine ⟨(A', s.2), fun Q => ?_, ⟨?_, fun n hn => ?_⟩, ⟨fun q hq => ?_, rfl⟩, fun i w hi hwi hmi => ⟨?_, fun n hn => ?_⟩⟩
  · rw [← hA]
    by_cases ha1 : a = -1
    · have hu0 : u = 0 := by
        rcases ha with ⟨e, -⟩ | ⟨m, hm, e⟩
        · exact e
        · have hm : m < u := hm
          exact absurd (e.symm.trans ha1) (nI_m1 m (by omega))
      have e2 : nI u ≤ 0 := by rw [hu0]; decide
      subst ha1
      have hm1 : ((-1 : Int32) = -1) = True := eq_self _
      simp only [e84, r84_0, r84_1, r84_4, r84_7, r84_8, r84_11, r84_12, r84_14, r84_17, r84_18, r84_21, r84_22, r84_23, r84_25, r84_28, r84_29, r84_30, r84_31, r84_32, r84_35, r84_36, r84_39, r84_40, r84_41, r84_44, r84_47, r84_48, r84_49, r84_50, r84_53, r84_56, r84_57, r84_58, r84_60, r84_61, r84_62, r84_63, r84_66, r84_67, r84_68, r84_69, r84_71, r84_72, r84_75, r84_77, r84_78, r84_79, r84_80, r84_83, r84_85, r84_86, r84_87, r84_88, r84_91, r84_93, r84_95, r84_96, r84_97, r84_100, r84_101, r84_102, r84_103, r84_104, r84_105, r84_106, r84_107, r84_110, r84_111, r84_112, r84_113, r84_114, am_li0, am_liS, am_laR0, m_isTree1 h, am_tL, h1, h2, h3, h4, e2, hk, k7' hk8, hm1, m1, g121_0, g121_1, g121_2, g121_3, a122, w122, w123, w124, w125, e12, h6, h7, up_ne, ne_eq, Nat.reduceEqDiff, up_same, h9, nI_1, h10, not_true, not_false_eq_true, if_true, if_false, am_okI, am_okR, Bool.and_self, List.length_cons, List.length_nil, List.set_cons_succ, List.set_cons_zero, Nat.reduceAdd, Nat.reduceLT, Nat.zero_le, and_true, true_and]
    · have hf : ∃ i, i < u ∧ a = nI i := by
        rcases ha with ⟨-, e⟩ | q
        · exact absurd e ha1
        · exact q
      simp only [e84, r84_0, r84_1, r84_4, r84_7, r84_8, r84_11, r84_12, r84_14, r84_17, r84_18, r84_21, r84_22, r84_23, r84_25, r84_28, r84_29, r84_30, r84_31, r84_32, r84_35, r84_36, r84_39, r84_40, r84_41, r84_44, r84_47, r84_48, r84_49, r84_50, r84_53, r84_56, r84_57, r84_58, r84_60, r84_61, r84_62, r84_63, r84_66, r84_67, r84_68, r84_69, r84_71, r84_72, r84_75, r84_77, r84_78, r84_79, r84_80, r84_83, r84_85, r84_86, r84_87, r84_88, r84_91, r84_93, r84_95, r84_96, r84_97, r84_100, r84_101, r84_102, r84_103, r84_104, r84_105, r84_106, r84_107, r84_110, r84_111, r84_112, r84_113, r84_114, am_li0, am_liS, am_laR0, m_isTree1 h, m_isNodeT h m1 (by omega) hf, m_oc, am_tL, h1, h2, h3, h4, hk, k7' hk8, ha1, m1, g121_0, g121_1, g121_2, g121_3, a122, w122, w123, w124, w125, e12, h6, h7, up_ne, ne_eq, Nat.reduceEqDiff, up_same, h9, nI_1, h10, not_true, not_false_eq_true, if_true, if_false, am_okI, am_okR, Bool.and_self, List.length_cons, List.length_nil, List.set_cons_succ, List.set_cons_zero, Nat.reduceAdd, Nat.reduceLT, Nat.zero_le, and_true, true_and]
  · show A' 122 j = nI (u + 1)
    rw [f2, upd_s]
  · have hn : n < u + 1 := hn
    show A' 123 (12 * j + n) = upd pr u a n ∧ A' 124 (12 * j + n) = upd ty u k n ∧ A' 125 (12 * j + n) = upd lb u l n
    rw [f3, f4, f5]
    by_cases e : n = u
    · subst e
      rw [upd_s, upd_s, upd_s, upd_s, upd_s, upd_s]
      exact ⟨rfl, rfl, rfl⟩
    · rw [upd_n _ _ (by omega), upd_n _ _ (by omega), upd_n _ _ (by omega), upd_n _ _ (by omega), upd_n _ _ (by omega), upd_n _ _ (by omega)]
      exact m2 n (by omega)
  · show A' q = s.1 q
    rw [← hA, up_ne _ _ (by omega), up_ne _ _ (by omega), up_ne _ _ (by omega), up_ne _ _ (by omega)]
  · show A' 122 i = nI w.1
    rw [f2, upd_n _ _ hi]
    exact hmi.1
  · show A' 123 (12 * i + n) = _ ∧ A' 124 (12 * i + n) = _ ∧ A' 125 (12 * i + n) = _
    rw [f3, f4, f5, upd_n _ _ (by omega), upd_n _ _ (by omega), upd_n _ _ (by omega)]
    exact hmi.2 n hn
end
