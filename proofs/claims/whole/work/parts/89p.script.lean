/-! The reference writes its script -/
/-- the script of slot i holds these steps -/
def msc (s : St) (i : Nat) (l : List Sp) : Prop := s.1 138 i = nI l.length ∧ ∀ k p, l[k]? = some p → ∀ j, j < 6 → s.1 (139 + j) (40 * i + k) = spC p j
/-- what script may change: the kept scripts stay -/
def frZ (s s' : St) : Prop := (∀ q, ¬ (134 ≤ q ∧ q ≤ 145) → s'.1 q = s.1 q) ∧ (∀ q k, 139 ≤ q → q ≤ 144 → 40 ≤ k → s'.1 q k = s.1 q k) ∧ (∀ k, 0 < k → s'.1 138 k = s.1 138 k ∧ s'.1 145 k = s.1 145 k) ∧ s'.2 = s.2
theorem frZ_r (s : St) : frZ s s := ⟨fun _ _ => rfl, fun _ _ _ _ _ => rfl, fun _ _ => ⟨rfl, rfl⟩, rfl⟩
theorem frZ_t {s s1 s2 : St} (h : frZ s s1) (h' : frZ s1 s2) : frZ s s2 := ⟨fun q hq => (h'.1 q hq).trans (h.1 q hq), fun q k a1 a2 a3 => (h'.2.1 q k a1 a2 a3).trans (h.2.1 q k a1 a2 a3), fun k hk => ⟨(h'.2.2.1 k hk).1.trans (h.2.2.1 k hk).1, (h'.2.2.1 k hk).2.trans (h.2.2.1 k hk).2⟩, h'.2.2.2.trans h.2.2.2⟩
theorem frZ_M {s s' : St} (h : frZ s s') : fzM s s' := ⟨h.1, h.2.2.2⟩
/-- put leaves all else as it is -/
def frU (s s' : St) : Prop := (∀ q, ¬ (138 ≤ q ∧ q ≤ 144) → s'.1 q = s.1 q) ∧ (∀ q k, 139 ≤ q → q ≤ 144 → 40 ≤ k → s'.1 q k = s.1 q k) ∧ (∀ k, 0 < k → s'.1 138 k = s.1 138 k) ∧ s'.2 = s.2
theorem frU_Z {s s' : St} (h : frU s s') : frZ s s' := ⟨fun q hq => h.1 q (by omega), h.2.1, fun k hk => ⟨h.2.2.1 k hk, by rw [h.1 145 (by omega)]⟩, h.2.2.2⟩
section
variable {L : Nat} {xs : Nat → Int32} {d : Nat}
theorem w138' {s : St} {i x : Int32} {f : am_S → Prop} : am_wi 0 (mk s) 138 i x f = (am_in i 4 = true ∧ f (mk (w1 s 138 i.toNatClampNeg x))) := w138
theorem w139' {s : St} {i x : Int32} {f : am_S → Prop} : am_wi 0 (mk s) 139 i x f = (am_in i 160 = true ∧ f (mk (w1 s 139 i.toNatClampNeg x))) := w139
theorem w140' {s : St} {i x : Int32} {f : am_S → Prop} : am_wi 0 (mk s) 140 i x f = (am_in i 160 = true ∧ f (mk (w1 s 140 i.toNatClampNeg x))) := w140
theorem w141' {s : St} {i x : Int32} {f : am_S → Prop} : am_wi 0 (mk s) 141 i x f = (am_in i 160 = true ∧ f (mk (w1 s 141 i.toNatClampNeg x))) := w141
theorem w142' {s : St} {i x : Int32} {f : am_S → Prop} : am_wi 0 (mk s) 142 i x f = (am_in i 160 = true ∧ f (mk (w1 s 142 i.toNatClampNeg x))) := w142
theorem w143' {s : St} {i x : Int32} {f : am_S → Prop} : am_wi 0 (mk s) 143 i x f = (am_in i 160 = true ∧ f (mk (w1 s 143 i.toNatClampNeg x))) := w143
theorem w144' {s : St} {i x : Int32} {f : am_S → Prop} : am_wi 0 (mk s) 144 i x f = (am_in i 160 = true ∧ f (mk (w1 s 144 i.toNatClampNeg x))) := w144
theorem w145' {s : St} {i x : Int32} {f : am_S → Prop} : am_wi 0 (mk s) 145 i x f = (am_in i 4 = true ∧ f (mk (w1 s 145 i.toNatClampNeg x))) := w145
theorem m_put {s : St} {l : List Sp} (hs : msc s 0 l) (hl : l.length < 40) (a0 a1 a2 a3 a4 a5 : Int32) :
    ∃ s' : St, msc s' 0 (l ++ [(a0, a1, a2, a3, a4, a5)]) ∧ frU s s' ∧ ∀ Q : Option Value → am_S → Prop, am_Call L xs d 107 [.ref 121, .int a0, .int a1, .int a2, .int a3, .int a4, .int a5] (mk s) Q = Q none (mk s') := by
  have k1 : am_in (nI l.length) 160 = true := in_of (by omega) (by decide)
  have k2 : (nI l.length).toNatClampNeg = l.length := nI_clamp (by omega)
  have k3 : am_in 0 4 = true := by decide
  have k4 : (0 : Int32).toNatClampNeg = 0 := rfl
  have e1 := hs.1
  have e2 : (w1 (w1 (w1 (w1 (w1 (w1 s 139 l.length a0) 140 l.length a1) 141 l.length a2) 142 l.length a3) 143 l.length a4) 144 l.length a5).1 138 0 = nI l.length := by
    rw [w1_o _ _ _ (by omega), w1_o _ _ _ (by omega), w1_o _ _ _ (by omega), w1_o _ _ _ (by omega), w1_o _ _ _ (by omega), w1_o _ _ _ (by omega)]; exact e1
  refine ⟨w1 (w1 (w1 (w1 (w1 (w1 (w1 s 139 l.length a0) 140 l.length a1) 141 l.length a2) 142 l.length a3) 143 l.length a4) 144 l.length a5) 138 0 (nI (l.length + 1)), ⟨?_, fun k p hk j hj => ?_⟩, ⟨fun q hq => ?_, fun q k q1 q2 q3 => ?_, fun k hk => ?_, rfl⟩, fun Q => ?_⟩
  · rw [w1_a, List.length_append]; rfl
  · have ej : j = 0 ∨ j = 1 ∨ j = 2 ∨ j = 3 ∨ j = 4 ∨ j = 5 := by omega
    rw [w1_o _ _ _ (by omega)]
    by_cases e : k = l.length
    · subst e
      rw [List.getElem?_append_right (Nat.le_refl _), Nat.sub_self] at hk
      have hk : some _ = some p := hk
      cases hk
      rw [show 40 * 0 + l.length = l.length by omega]
      rcases ej with rfl | rfl | rfl | rfl | rfl | rfl
      · rw [w1_o _ _ _ (by omega), w1_o _ _ _ (by omega), w1_o _ _ _ (by omega), w1_o _ _ _ (by omega), w1_o _ _ _ (by omega), w1_a]; rfl
      · rw [w1_o _ _ _ (by omega), w1_o _ _ _ (by omega), w1_o _ _ _ (by omega), w1_o _ _ _ (by omega), w1_a]; rfl
      · rw [w1_o _ _ _ (by omega), w1_o _ _ _ (by omega), w1_o _ _ _ (by omega), w1_a]; rfl
      · rw [w1_o _ _ _ (by omega), w1_o _ _ _ (by omega), w1_a]; rfl
      · rw [w1_o _ _ _ (by omega), w1_a]; rfl
      · rw [w1_a]; rfl
    · have hkl : k < l.length := by
        have := (List.getElem?_eq_some_iff.mp hk).1
        rw [List.length_append, List.length_cons, List.length_nil] at this
        omega
      rw [List.getElem?_append_left hkl] at hk
      rw [← hs.2 k p hk j hj]
      have e : 40 * 0 + k ≠ l.length := by omega
      rcases ej with rfl | rfl | rfl | rfl | rfl | rfl
      · rw [w1_o _ _ _ (by omega), w1_o _ _ _ (by omega), w1_o _ _ _ (by omega), w1_o _ _ _ (by omega), w1_o _ _ _ (by omega), w1_n _ _ _ e]
      · rw [w1_o _ _ _ (by omega), w1_o _ _ _ (by omega), w1_o _ _ _ (by omega), w1_o _ _ _ (by omega), w1_n _ _ _ e, w1_o _ _ _ (by omega)]
      · rw [w1_o _ _ _ (by omega), w1_o _ _ _ (by omega), w1_o _ _ _ (by omega), w1_n _ _ _ e, w1_o _ _ _ (by omega), w1_o _ _ _ (by omega)]
      · rw [w1_o _ _ _ (by omega), w1_o _ _ _ (by omega), w1_n _ _ _ e, w1_o _ _ _ (by omega), w1_o _ _ _ (by omega), w1_o _ _ _ (by omega)]
      · rw [w1_o _ _ _ (by omega), w1_n _ _ _ e, w1_o _ _ _ (by omega), w1_o _ _ _ (by omega), w1_o _ _ _ (by omega), w1_o _ _ _ (by omega)]
      · rw [w1_n _ _ _ e, w1_o _ _ _ (by omega), w1_o _ _ _ (by omega), w1_o _ _ _ (by omega), w1_o _ _ _ (by omega), w1_o _ _ _ (by omega)]
  · rw [w1_o _ _ _ (by omega), w1_o _ _ _ (by omega), w1_o _ _ _ (by omega), w1_o _ _ _ (by omega), w1_o _ _ _ (by omega), w1_o _ _ _ (by omega), w1_o _ _ _ (by omega)]
  · have e : k ≠ l.length := by omega
    have eq : q = 139 ∨ q = 140 ∨ q = 141 ∨ q = 142 ∨ q = 143 ∨ q = 144 := by omega
    rw [w1_o _ _ _ (by omega)]
    rcases eq with rfl | rfl | rfl | rfl | rfl | rfl
    · rw [w1_o _ _ _ (by omega), w1_o _ _ _ (by omega), w1_o _ _ _ (by omega), w1_o _ _ _ (by omega), w1_o _ _ _ (by omega), w1_n _ _ _ e]
    · rw [w1_o _ _ _ (by omega), w1_o _ _ _ (by omega), w1_o _ _ _ (by omega), w1_o _ _ _ (by omega), w1_n _ _ _ e, w1_o _ _ _ (by omega)]
    · rw [w1_o _ _ _ (by omega), w1_o _ _ _ (by omega), w1_o _ _ _ (by omega), w1_n _ _ _ e, w1_o _ _ _ (by omega), w1_o _ _ _ (by omega)]
    · rw [w1_o _ _ _ (by omega), w1_o _ _ _ (by omega), w1_n _ _ _ e, w1_o _ _ _ (by omega), w1_o _ _ _ (by omega), w1_o _ _ _ (by omega)]
    · rw [w1_o _ _ _ (by omega), w1_n _ _ _ e, w1_o _ _ _ (by omega), w1_o _ _ _ (by omega), w1_o _ _ _ (by omega), w1_o _ _ _ (by omega)]
    · rw [w1_n _ _ _ e, w1_o _ _ _ (by omega), w1_o _ _ _ (by omega), w1_o _ _ _ (by omega), w1_o _ _ _ (by omega), w1_o _ _ _ (by omega)]
  · rw [w1_n _ _ _ (by omega), w1_o _ _ _ (by omega), w1_o _ _ _ (by omega), w1_o _ _ _ (by omega), w1_o _ _ _ (by omega), w1_o _ _ _ (by omega), w1_o _ _ _ (by omega)]
  · simp only [e107, r107_0, r107_1, r107_4, r107_5, r107_6, r107_8, r107_9, r107_12, r107_14, r107_15, r107_16, r107_17, r107_20, r107_22, r107_23, r107_24, r107_25, r107_28, r107_30, r107_31, r107_32, r107_33, r107_36, r107_38, r107_40, r107_41, r107_42, r107_45, r107_47, r107_49, r107_50, r107_51, r107_54, r107_56, r107_58, r107_59, r107_60, r107_63, r107_64, r107_65, r107_66, r107_67, r107_68, r107_69, am_li0, am_liS, am_laR0, g121_18, g121_19, g121_20, g121_21, g121_22, g121_23, g121_24, a138, w138', w139', w140', w141', w142', w143', w144', e1, e2, k1, k2, k3, k4, nI_1, am_okI, am_okR, Bool.and_self, eq_self, List.length_cons, List.length_nil, List.set_cons_succ, List.set_cons_zero, Nat.reduceAdd, Nat.reduceLT, Nat.zero_le, Nat.reduceLeDiff, and_true, true_and]
/-- where the reference stands when it writes -/
def mZ (s : St) (j j' : Nat) (t w : Tr) (M : Pr) (X : Nat → Bool) (Z : Zt) : Prop := mD s j j' t w M ∧ (∀ x, x < t.1 → s.1 134 x = bI (X x)) ∧ msc s 0 Z.1 ∧ s.1 145 0 = nI Z.2.1 ∧ ∀ z, z < 12 → s.1 135 z = Z.2.2 z
theorem mZ_U {s s' : St} {j j' : Nat} {t w : Tr} {M : Pr} {X : Nat → Bool} {Z : Zt} {l : List Sp} (h : mZ s j j' t w M X Z) (f : frU s s') (hl : msc s' 0 l) : mZ s' j j' t w M X (l, Z.2) := by
  obtain ⟨h1, h2, h3, h4, h5⟩ := h
  exact ⟨mD_fr (frZ_M (frU_Z f)) h1, fun x hx => by rw [f.1 134 (by omega)]; exact h2 x hx, hl, by rw [f.1 145 (by omega)]; exact h4, fun z hz => by rw [f.1 135 (by omega)]; exact h5 z hz⟩
theorem m_sib {s : St} {j j' y : Nat} {t w : Tr} {M : Pr} {sd : Nat → Int32} {v1 : Value} (hD : mD s j j' t w M) (hy : y < w.1) (hs : ∀ z, z < 12 → s.1 135 z = sd z) : ∀ (m v : Nat), y - v = m → v ≤ y → ∀ Q : Option Value → am_S → Prop,
    am_Rn L xs d 104 108 [.ref 121, v1, .int (nI y), .int (w.2.1 y), .int (lsN w sd (w.2.1 y) v), .int (nI v)] [] (mk s) Q = am_Rn L xs d 104 157 [.ref 121, v1, .int (nI y), .int (w.2.1 y), .int (lsN w sd (w.2.1 y) y), .int (nI y)] [] (mk s) Q
  | 0, v, hm, hv, Q => by
    have h12 := hD.2.2.2.2.2.2.2.2.2.1
    have e : v = y := by omega
    subst e
    have h1 : nI v ≤ nI v := nI_le (Nat.le_refl _) (by omega)
    rw [r104_108]
    simp only [r104_110, r104_111, am_li0, am_liS, h1, if_true]
  | m + 1, v, hm, hv, Q => by
    have hD' := hD
    obtain ⟨hj, hj', q1, q2, q3, q4, hM, hp, hw, hw'⟩ := hD
    have h12' := hw'.1
    have h1 : ¬ nI y ≤ nI v := nI_ge (by omega) (by omega)
    have h2 : ¬ nI y ≤ 0 := nI_nle (by omega) (by omega)
    have k1 : am_in (nI v) 12 = true := in_of (by omega) (by decide)
    have k2 : (nI v).toNatClampNeg = v := nI_clamp (by omega)
    have z1 : am_in (nI (12 * j' + v)) 48 = true := in_of (by omega) (by decide)
    have z2 : (nI (12 * j' + v)).toNatClampNeg = 12 * j' + v := nI_clamp (by omega)
    have ep := (q2.2 v (by omega)).1
    have es := hs v (by omega)
    rw [← m_sib (v1 := v1) hD' hy hs m (v + 1) (by omega) (by omega) Q, lsN_s, r104_108]
    by_cases h : w.2.1 v = w.2.1 y
    · rw [if_pos h]
      rw [h] at ep
      simp only [r104_110, r104_111, r104_114, r104_115, r104_118, r104_119, r104_122, r104_124, r104_125, r104_128, r104_129, r104_131, r104_132, r104_133, r104_134, r104_137, r104_138, r104_141, r104_143, r104_144, r104_149, r104_151, r104_154, am_li0, am_liS, am_laR0, g121_1, g121_13, g121_17, a123, a135, h1, h2, k1, k2, ix12, z1, z2, ep, es, q4, nI_1, not_true, if_false, List.length_cons, List.length_nil, List.set_cons_succ, List.set_cons_zero, Nat.reduceAdd, Nat.reduceLT, Nat.zero_le, Nat.reduceLeDiff, and_true, true_and]
    · rw [if_neg h]
      simp only [r104_110, r104_111, r104_114, r104_115, r104_118, r104_119, r104_122, r104_124, r104_125, r104_128, r104_129, r104_131, r104_132, r104_133, r104_134, r104_147, r104_149, r104_151, r104_154, am_li0, am_liS, am_laR0, g121_1, g121_17, a123, h1, h2, h, ix12, z1, z2, ep, q4, nI_1, not_false_eq_true, if_true, if_false, List.length_cons, List.length_nil, List.set_cons_succ, List.set_cons_zero, Nat.reduceAdd, Nat.reduceLT, Nat.zero_le, Nat.reduceLeDiff, and_true, true_and]
theorem rf_mono {t w : Tr} {M : Pr} {X : Nat → Bool} : ∀ (l : List Nat) (Z : Zt), Z.1.length ≤ (l.foldl (rf t w M X) Z).1.length
  | [], _ => Nat.le_refl _
  | y :: l, Z => by
    rw [List.foldl_cons]
    refine Nat.le_trans ?_ (rf_mono l _)
    unfold rf
    rw [List.length_append]; omega
/-- one node -/
theorem m_node1 {s : St} {j j' k y : Nat} {t w : Tr} {M : Pr} {X : Nat → Bool} {Z : Zt} {v2 v3 v4 v5 : Value} (hZ : mZ s j j' t w M X Z) (hk : k < w.1) (hy : y < w.1) (hr : s.1 136 k = nI y) (hl : (rf t w M X Z y).1.length ≤ 24) :
    ∃ (s' : St) (u2 u3 u4 u5 : Value), mZ s' j j' t w M X (rf t w M X Z y) ∧ frZ s s' ∧ s'.1 136 = s.1 136 ∧ ∀ Q : Option Value → am_S → Prop, am_Rn L xs (d + 1) 104 67 [.ref 121, .int (nI k), v2, v3, v4, v5] [] (mk s) Q = am_Rn L xs (d + 1) 104 67 [.ref 121, .int (nI (k + 1)), u2, u3, u4, u5] [] (mk s') Q := by
  have hZ' := hZ
  obtain ⟨hD, hX, hs, hi, hsd⟩ := hZ
  have hD' := hD
  obtain ⟨hj, hj', q1, q2, q3, q4, hM, hp, hw, hw'⟩ := hD
  have h12 := hw.1
  have h12' := hw'.1
  have h1 : ¬ nI w.1 ≤ nI k := nI_ge (by omega) (by omega)
  have j1 : am_in (nI j) 4 = true := in_of (by omega) (by decide)
  have j2 : (nI j).toNatClampNeg = j := nI_clamp (by omega)
  have j3 : am_in (nI j') 4 = true := in_of (by omega) (by decide)
  have j4 : (nI j').toNatClampNeg = j' := nI_clamp (by omega)
  have k1 : am_in (nI k) 12 = true := in_of (by omega) (by decide)
  have k2 : (nI k).toNatClampNeg = k := nI_clamp (by omega)
  have y1 : am_in (nI y) 12 = true := in_of (by omega) (by decide)
  have y2 : (nI y).toNatClampNeg = y := nI_clamp (by omega)
  have z1 : am_in (nI (12 * j' + y)) 48 = true := in_of (by omega) (by decide)
  have z2 : (nI (12 * j' + y)).toNatClampNeg = 12 * j' + y := nI_clamp (by omega)
  have ep := (q2.2 y hy).1
  have ety := (q2.2 y hy).2.1
  have ely := (q2.2 y hy).2.2
  have eb := (hM y (by omega)).2
  -- up to 172
  have S0 : ∀ Q : Option Value → am_S → Prop, am_Rn L xs (d + 1) 104 67 [.ref 121, .int (nI k), v2, v3, v4, v5] [] (mk s) Q = am_Rn L xs (d + 1) 104 172 [.ref 121, .int (nI k), .int (nI y), .int (unN w Z.2.2 y), .int (lsN w Z.2.2 (w.2.1 y) y), .int (nI y)] [] (mk s) Q := by
    intro Q
    have r := m_sib (L := L) (xs := xs) (d := d + 1) (v1 := .int (nI k)) hD' hy hsd y 0 rfl (Nat.zero_le _) Q
    have r : am_Rn L xs (d + 1) 104 108 [.ref 121, .int (nI k), .int (nI y), .int (w.2.1 y), .int (-1), .int 0] [] (mk s) Q = _ := r
    rw [r104_67]
    simp only [r104_68, r104_69, r104_72, r104_73, r104_76, r104_77, r104_80, r104_81, r104_84, r104_85, r104_86, r104_87, r104_88, r104_91, r104_93, r104_94, r104_97, r104_98, r104_99, r104_100, r104_101, r104_102, r104_103, r104_105, r104_106, am_li0, am_liS, am_laR0, g121_0, g121_1, g121_14, g121_17, a122, a123, a136, q4, j3, j4, q2.1, h1, k1, k2, hr, ix12, z1, z2, ep, if_false, List.length_cons, List.length_nil, List.set_cons_succ, List.set_cons_zero, Nat.reduceAdd, Nat.reduceLT, Nat.zero_le, Nat.reduceLeDiff, and_true, true_and]
    rw [r]
    by_cases y0 : y = 0
    · have e0 : w.2.1 y = -1 := by
        rcases hw'.2 y hy with ⟨-, e⟩ | ⟨m, hm, -⟩
        · exact e
        · omega
      have e1 : unN w Z.2.2 y = -1 := if_pos y0
      have c1 : ¬ (0 : Int32) ≤ -1 := by decide
      rw [e0, e1]
      simp only [r104_157, r104_158, r104_161, r104_162, r104_171, am_li0, am_liS, c1, if_false, List.length_cons, List.length_nil, List.set_cons_succ, List.set_cons_zero, Nat.reduceAdd, Nat.reduceLT, Nat.zero_le, Nat.reduceLeDiff, and_true, true_and]
    · have e0 := pm_eq hw' (show 0 < y by omega) hy
      have hpl := pm_lt w (show 0 < y by omega)
      have e1 : unN w Z.2.2 y = Z.2.2 (pm w y) := if_neg y0
      have c1 : (0 : Int32) ≤ nI (pm w y) := nI_le (a := 0) (Nat.zero_le _) (by omega)
      have c2 : am_in (nI (pm w y)) 12 = true := in_of (by omega) (by decide)
      have c3 : (nI (pm w y)).toNatClampNeg = pm w y := nI_clamp (by omega)
      have c4 := hsd (pm w y) (by omega)
      rw [e1]
      generalize hG : lsN w Z.2.2 (w.2.1 y) y = G
      rw [e0]
      simp only [r104_157, r104_158, r104_165, r104_166, r104_169, r104_170, r104_171, am_li0, am_liS, am_laR0, g121_13, a135, c1, c2, c3, c4, if_true, List.length_cons, List.length_nil, List.set_cons_succ, List.set_cons_zero, Nat.reduceAdd, Nat.reduceLT, Nat.zero_le, Nat.reduceLeDiff, and_true, true_and]
  generalize hp' : unN w Z.2.2 y = p at S0
  generalize hq' : lsN w Z.2.2 (w.2.1 y) y = q at S0
  have erf : rf t w M X Z y = (Z.1 ++ stO t w X y p q Z.2.1 (M.2 y), Z.2.1 + inO (M.2 y), upd Z.2.2 y (cpO t Z.2.1 (M.2 y))) := by unfold rf; rw [hp', hq']
  rw [erf] at hl ⊢
  have i1 : am_in 0 4 = true := by decide
  have i2 : (0 : Int32).toNatClampNeg = 0 := rfl
  cases ho : M.2 y with
  | none =>
    rw [ho, oI_none] at eb
    rw [ho, stO_n, List.length_append, List.length_cons, List.length_nil] at hl
    rw [stO_n, inO_n, cpO_n]
    have c1 : ¬ (0 : Int32) ≤ -1 := by decide
    generalize hs1 : w1 (w1 s 135 y (nI (t.1 + Z.2.1))) 145 0 (nI (Z.2.1 + 1)) = s1
    have o1 : ∀ q, q ≠ 135 → q ≠ 145 → s1.1 q = s.1 q := fun q n1 n2 => by rw [← hs1, w1_o _ _ _ n2, w1_o _ _ _ n1]
    have o2 : s1.1 135 = upd (s.1 135) y (nI (t.1 + Z.2.1)) := by rw [← hs1, w1_o _ _ _ (by omega), w1_q]
    have o3 : s1.1 145 = upd (s.1 145) 0 (nI (Z.2.1 + 1)) := by rw [← hs1, w1_q, w1_o _ _ _ (by omega)]
    have o4 : s1.2 = s.2 := by rw [← hs1]; rfl
    have sc1 : msc s1 0 Z.1 := ⟨by rw [o1 138 (by omega) (by omega)]; exact hs.1, fun k p hk j hj => by rw [o1 _ (by omega) (by omega)]; exact hs.2 k p hk j hj⟩
    have f1 : frZ s s1 := ⟨fun q hq => o1 q (by omega) (by omega), fun q k _ _ _ => by rw [o1 q (by omega) (by omega)], fun k hk => ⟨by rw [o1 138 (by omega) (by omega)], by rw [o3, upd_n _ _ (by omega)]⟩, o4⟩
    have hZ1 : mZ s1 j j' t w M X (Z.1, Z.2.1 + 1, upd Z.2.2 y (nI (t.1 + Z.2.1))) := ⟨mD_fr (frZ_M f1) hD', fun x hx => by rw [o1 134 (by omega) (by omega)]; exact hX x hx, sc1, by rw [o3, upd_s], fun z hz => by
      rw [o2]
      dsimp only
      unfold upd
      by_cases e : z = y
      · rw [if_pos e, if_pos e]
      · rw [if_neg e, if_neg e]; exact hsd z hz⟩
    obtain ⟨s2, a1, a2, a3⟩ := m_put (L := L) (xs := xs) (d := d) sc1 (by omega) 0 (nI (t.1 + Z.2.1)) p q (w.2.2.1 y) (w.2.2.2 y)
    refine ⟨s2, .int (nI y), .int p, .int q, .int (nI y), mZ_U hZ1 a2 a1, frZ_t f1 (frU_Z a2), by rw [a2.1 136 (by omega), o1 136 (by omega) (by omega)], fun Q => ?_⟩
    have x1 : s.1 122 j = nI t.1 := q1.1
    have x2 : ∀ z : Int32, (w1 s 135 y z).1 145 0 = nI Z.2.1 := fun z => by rw [w1_o _ _ _ (by omega)]; exact hi
    have x3 : s1.1 135 y = nI (t.1 + Z.2.1) := by rw [o2, upd_s]
    have x4 : s1.1 124 (12 * j' + y) = w.2.2.1 y := by rw [o1 124 (by omega) (by omega)]; exact ety
    have x5 : s1.1 125 (12 * j' + y) = w.2.2.2 y := by rw [o1 125 (by omega) (by omega)]; exact ely
    have x6 : s1.2.1 121 17 = nI j' := by rw [o4]; exact q4
    rw [S0 Q]
    simp only [r104_172, r104_173, r104_176, r104_177, r104_178, r104_181, r104_182, r104_185, r104_186, r104_187, r104_190, r104_191, r104_194, r104_195, r104_196, r104_199, r104_200, r104_201, r104_202, r104_203, r104_204, r104_207, r104_208, r104_209, r104_210, r104_211, r104_212, r104_213, r104_214, r104_215, r104_216, r104_219, r104_220, r104_221, r104_222, r104_224, r104_225, r104_228, r104_230, r104_231, r104_234, r104_235, r104_236, r104_237, r104_238, r104_239, r104_242, r104_244, r104_245, r104_248, r104_249, r104_250, r104_251, r104_252, r104_255, r104_352, r104_355, am_li0, am_liS, am_laR0, am_tN, m_oc, g121_0, g121_2, g121_3, g121_5, g121_13, g121_16, g121_17, g121_25, a122, a124, a125, a127, a135, a145, w135', w145', eb, c1, y1, y2, j1, j2, q3, i1, i2, x1, hi, nI_add, x2, nI_1, hs1, x3, x4, x5, x6, ix12, z1, z2, a3, Bool.and_self, eq_self, if_false, am_okI, am_okR, List.length_cons, List.length_nil, List.set_cons_succ, List.set_cons_zero, Nat.reduceAdd, Nat.reduceLT, Nat.zero_le, Nat.reduceLeDiff, and_true, true_and]
  | some x =>
    have hx := (hp.2 y x ho).2
    rw [ho, oI_some] at eb
    rw [ho, stO_s] at hl
    rw [stO_s, inO_s, cpO_s, Nat.add_zero]
    have x1 : am_in (nI x) 12 = true := in_of (by omega) (by decide)
    have x2 : (nI x).toNatClampNeg = x := nI_clamp (by omega)
    have x3 : (0 : Int32) ≤ nI x := nI_le (a := 0) (Nat.zero_le _) (by omega)
    have z3 : am_in (nI (12 * j + x)) 48 = true := in_of (by omega) (by decide)
    have z4 : (nI (12 * j + x)).toNatClampNeg = 12 * j + x := nI_clamp (by omega)
    have elx := (q1.2 x hx).2.2
    generalize hs1 : w1 s 135 y (nI x) = s1
    have o1 : ∀ q, q ≠ 135 → s1.1 q = s.1 q := fun q n1 => by rw [← hs1, w1_o _ _ _ n1]
    have o2 : s1.1 135 = upd (s.1 135) y (nI x) := by rw [← hs1, w1_q]
    have o4 : s1.2 = s.2 := by rw [← hs1]; rfl
    have f1 : frZ s s1 := ⟨fun q hq => o1 q (by omega), fun q k _ _ _ => by rw [o1 q (by omega)], fun k hk => ⟨by rw [o1 138 (by omega)], by rw [o1 145 (by omega)]⟩, o4⟩
    have sc1 : msc s1 0 Z.1 := ⟨by rw [o1 138 (by omega)]; exact hs.1, fun k p hk j hj => by rw [o1 _ (by omega)]; exact hs.2 k p hk j hj⟩
    have hZ1 : mZ s1 j j' t w M X (Z.1, Z.2.1, upd Z.2.2 y (nI x)) := ⟨mD_fr (frZ_M f1) hD', fun x hx => by rw [o1 134 (by omega)]; exact hX x hx, sc1, by rw [o1 145 (by omega)]; exact hi, fun z hz => by
      rw [o2]
      dsimp only
      unfold upd
      by_cases e : z = y
      · rw [if_pos e, if_pos e]
      · rw [if_neg e, if_neg e]; exact hsd z hz⟩
    have g1 : s1.2.1 121 16 = nI j := by rw [o4]; exact q3
    have g2 : s1.2.1 121 17 = nI j' := by rw [o4]; exact q4
    have g3 : s1.1 125 (12 * j + x) = t.2.2.2 x := by rw [o1 125 (by omega)]; exact elx
    have g4 : s1.1 125 (12 * j' + y) = w.2.2.2 y := by rw [o1 125 (by omega)]; exact ely
    have hu : ∃ s2 : St, mZ s2 j j' t w M X (Z.1 ++ (if t.2.2.2 x = w.2.2.2 y then [] else [(1, nI x, -1, -1, -1, w.2.2.2 y)]), Z.2.1, upd Z.2.2 y (nI x)) ∧ frZ s s2 ∧ s2.1 136 = s.1 136 ∧ ∀ Q : Option Value → am_S → Prop, am_Rn L xs (d + 1) 104 172 [.ref 121, .int (nI k), .int (nI y), .int p, .int q, .int (nI y)] [] (mk s) Q = am_Rn L xs (d + 1) 104 330 [.ref 121, .int (nI k), .int (nI y), .int p, .int q, .int (nI x)] [] (mk s2) Q := by
      by_cases hlab : t.2.2.2 x = w.2.2.2 y
      · rw [if_pos hlab, List.append_nil]
        refine ⟨s1, hZ1, f1, o1 136 (by omega), fun Q => ?_⟩
        rw [hlab] at g3
        simp only [r104_172, r104_173, r104_176, r104_177, r104_178, r104_258, r104_259, r104_262, r104_263, r104_264, r104_266, r104_267, r104_270, r104_271, r104_273, r104_274, r104_275, r104_278, r104_280, r104_281, r104_284, r104_285, r104_287, r104_288, r104_289, r104_290, r104_293, r104_295, r104_296, r104_299, r104_300, r104_301, r104_302, r104_303, am_li0, am_liS, am_laR0, g121_3, g121_5, g121_13, g121_16, g121_17, a125, a127, w135', eb, y1, y2, x1, x2, x3, hs1, g1, g2, g3, g4, ix12, z1, z2, z3, z4, if_true, List.length_cons, List.length_nil, List.set_cons_succ, List.set_cons_zero, Nat.reduceAdd, Nat.reduceLT, Nat.zero_le, Nat.reduceLeDiff, and_true, true_and]
      · rw [if_neg hlab]
        rw [if_neg hlab, List.length_append, List.length_append, List.length_cons, List.length_nil] at hl
        obtain ⟨s2, a1, a2, a3⟩ := m_put (L := L) (xs := xs) (d := d) sc1 (by omega) 1 (nI x) (-1) (-1) (-1) (w.2.2.2 y)
        refine ⟨s2, mZ_U hZ1 a2 a1, frZ_t f1 (frU_Z a2), by rw [a2.1 136 (by omega), o1 136 (by omega)], fun Q => ?_⟩
        simp only [r104_172, r104_173, r104_176, r104_177, r104_178, r104_258, r104_259, r104_262, r104_263, r104_264, r104_266, r104_267, r104_270, r104_271, r104_273, r104_274, r104_275, r104_278, r104_280, r104_281, r104_284, r104_285, r104_287, r104_288, r104_289, r104_290, r104_293, r104_295, r104_296, r104_299, r104_300, r104_301, r104_302, r104_303, r104_306, r104_307, r104_308, r104_310, r104_311, r104_312, r104_313, r104_314, r104_317, r104_319, r104_320, r104_323, r104_324, r104_325, r104_326, r104_327, am_li0, am_liS, am_laR0, am_tN, m_oc, g121_3, g121_5, g121_13, g121_16, g121_17, a125, a127, w135', eb, y1, y2, x1, x2, x3, hs1, g1, g2, g3, g4, ix12, z1, z2, z3, z4, hlab, a3, if_true, if_false, am_okI, am_okR, List.length_cons, List.length_nil, List.set_cons_succ, List.set_cons_zero, Nat.reduceAdd, Nat.reduceLT, Nat.zero_le, Nat.reduceLeDiff, and_true, true_and]
    obtain ⟨s2, u1, u2, u3, u4⟩ := hu
    have xs1 := u1.2.1 x hx
    rw [← List.append_assoc]
    rw [← List.append_assoc] at hl
    generalize Z.1 ++ (if t.2.2.2 x = w.2.2.2 y then [] else [(1, nI x, -1, -1, -1, w.2.2.2 y)]) = l1 at hl u1 ⊢
    cases hXx : X x with
    | true =>
      rw [if_pos rfl, List.append_nil]
      rw [hXx] at xs1
      have n1 : ¬ bI true = 0 := by decide
      refine ⟨s2, .int (nI y), .int p, .int q, .int (nI x), u1, u2, u3, fun Q => ?_⟩
      rw [S0 Q, u4 Q]
      simp only [r104_330, r104_331, r104_334, r104_336, r104_337, r104_352, r104_355, am_li0, am_liS, am_laR0, g121_12, a134, x1, x2, xs1, n1, nI_1, not_false_eq_true, if_true, List.length_cons, List.length_nil, List.set_cons_succ, List.set_cons_zero, Nat.reduceAdd, Nat.reduceLT, Nat.zero_le, Nat.reduceLeDiff, and_true, true_and]
    | false =>
      rw [if_neg (by decide)]
      rw [hXx, if_neg (by decide), List.length_append, List.length_cons, List.length_nil] at hl
      rw [hXx] at xs1
      have n0 : bI false = 0 := rfl
      obtain ⟨s3, a1, a2, a3⟩ := m_put (L := L) (xs := xs) (d := d) u1.2.2.1 (by dsimp only; omega) 2 (nI x) p q (-1) 0
      refine ⟨s3, .int (nI y), .int p, .int q, .int (nI x), mZ_U (Z := (l1, Z.2.1, upd Z.2.2 y (nI x))) u1 a2 a1, frZ_t u2 (frU_Z a2), by rw [a2.1 136 (by omega)]; exact u3, fun Q => ?_⟩
      rw [S0 Q, u4 Q]
      simp only [r104_330, r104_331, r104_334, r104_336, r104_337, r104_340, r104_341, r104_342, r104_344, r104_345, r104_347, r104_348, r104_349, r104_352, r104_355, am_li0, am_liS, am_laR0, am_tN, m_oc, g121_12, a134, x1, x2, xs1, n0, a3, nI_1, not_true, if_false, am_okI, am_okR, List.length_cons, List.length_nil, List.set_cons_succ, List.set_cons_zero, Nat.reduceAdd, Nat.reduceLT, Nat.zero_le, Nat.reduceLeDiff, and_true, true_and]
end
