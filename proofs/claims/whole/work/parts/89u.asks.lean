/-! diff, partner, step, count -/
theorem stO_congr {t w : Tr} {X Y : Nat → Bool} {y : Nat} {u b : Int32} {i : Nat} {o : Option Nat} (h : ∀ x, o = some x → X x = Y x) : stO t w X y u b i o = stO t w Y y u b i o := by
  cases o with
  | none => rfl
  | some x => rw [stO_s, stO_s, h x rfl]
theorem cwk_congr {t : Tr} {M : Pr} {f g : Nat → Int32 → Zs → Zs} (h : ∀ c b Z, f c b Z = g c b Z) : ∀ (l : List Nat) (b : Int32) (Z : Zs), cwk t M f l b Z = cwk t M g l b Z
  | [], _, _ => rfl
  | c :: l, b, Z => by rw [cwk_c, cwk_c, h, cwk_congr h]
theorem cw_congr {t w : Tr} {M : Pr} {X Y : Nat → Bool} (h : ∀ y x, M.2 y = some x → X x = Y x) : ∀ (f y : Nat) (p b : Int32) (Z : Zs), cw t w M X f y p b Z = cw t w M Y f y p b Z
  | 0, _, _, _, _ => rfl
  | f + 1, y, p, b, Z => by
    rw [cw_s, cw_s]
    have e : cwN t w M X y p b Z = cwN t w M Y y p b Z := by
      unfold cwN
      rw [stO_congr (fun x hx => h y x hx)]
    rw [e]
    exact cwk_congr (fun c b' Z' => cw_congr h f c _ b' Z') _ _ _
theorem scr_congr {t w : Tr} {M : Pr} {X Y : Nat → Bool} (hp : pW t w M) (h : ∀ x, x < t.1 → X x = Y x) : scr t w M X = scr t w M Y ∧ scI t w M X = scI t w M Y := by
  unfold scr scI
  rw [cw_congr (fun y x hx => h x (hp.2 y x hx).2)]
  exact ⟨rfl, rfl⟩
/-- how many steps of a kind -/
def knC (k : Int32) : List Sp → Nat
  | [] => 0
  | p :: l => (if p.1 = k then 1 else 0) + knC k l
theorem knC_le (k : Int32) : ∀ l, knC k l ≤ l.length
  | [] => Nat.le_refl _
  | p :: l => by
    have := knC_le k l
    show (if p.1 = k then 1 else 0) + knC k l ≤ l.length + 1
    split <;> omega
theorem knC_take {k : Int32} : ∀ {l : List Sp} {i : Nat} {p : Sp}, l[i]? = some p → knC k (l.take (i + 1)) = knC k (l.take i) + (if p.1 = k then 1 else 0)
  | [], i, p, h => by cases h
  | q :: l, 0, p, h => by
    have h : some q = some p := h
    cases h
    show (if q.1 = k then 1 else 0) + knC k (l.take 0) = 0 + _
    rw [List.take_zero]
    show (if q.1 = k then 1 else 0) + 0 = 0 + _
    omega
  | q :: l, i + 1, p, h => by
    have h : l[i]? = some p := h
    rw [List.take_succ_cons, List.take_succ_cons]
    show (if q.1 = k then 1 else 0) + knC k (l.take (i + 1)) = (if q.1 = k then 1 else 0) + knC k (l.take i) + _
    rw [knC_take h]; omega
section
variable {L : Nat} {xs : Nat → Int32} {d : Nat} {s : St}
theorem c_countOf {D : Nat} {l : List Sp} {a : Int32} (hE : isE D) (hs : sc s D l) (hl : l.length ≤ 24) {Q : Option Value → am_S → Prop} : ∀ (m i : Nat), l.length - i = m → i ≤ l.length →
    am_Rn L xs d 60 4 [.ref (D + 13), .int a, .int (nI (knC a (l.take i))), .int (nI i)] [] (mk s) Q = Q (some (.int (nI (knC a l)))) (mk s)
  | 0, i, hm, hi => by
    have e : i = l.length := by omega
    subst e
    have h1 : nI l.length ≤ nI l.length := nI_le (Nat.le_refl _) (by omega)
    rw [List.take_length, r60_4]
    simp only [r60_5, r60_6, r60_9, r60_33, r60_34, am_li0, am_liS, am_laR0, s_1 hE, hs.1, h1, if_true]
  | m + 1, i, hm, hi => by
    have h1 : ¬ nI l.length ≤ nI i := nI_ge (by omega) (by omega)
    have p0 : ∀ f : Nat → Prop, am_ar2 (mk s) (D + 14) 0 f = f (D + 15 + 0) := fun f => s_p (s := s) hE (j := 0) (by decide)
    have i1 : am_in (nI i) 24 = true := in_of (by omega) (by decide)
    have i2 : (nI i).toNatClampNeg = i := nI_clamp (by omega)
    have hg : l[i]? = some l[i] := List.getElem?_eq_getElem (by omega)
    have hk : s.1 (D + 15 + 0) i = l[i].1 := hs.2 i _ hg 0 (by decide)
    have ih := c_countOf (a := a) (Q := Q) hE hs hl m (i + 1) (by omega) (by omega)
    rw [knC_take hg] at ih
    rw [← ih, r60_4]
    by_cases h : l[i].1 = a
    · rw [if_pos h]
      simp only [r60_5, r60_6, r60_9, r60_12, r60_13, r60_16, r60_17, r60_18, r60_19, r60_20, r60_21, r60_24, r60_27, r60_30, am_li0, am_liS, am_laR0, s_0 hE, s_1 hE, s_a hE (show 0 < 6 by decide), p0, hs.1, h1, i1, i2, hk, h, nI_1, not_true, if_false, List.length_cons, List.length_nil, List.set_cons_succ, List.set_cons_zero, Nat.reduceAdd, Nat.reduceLT, Nat.reduceLeDiff, true_and]
    · rw [if_neg h]
      simp only [r60_5, r60_6, r60_9, r60_12, r60_13, r60_16, r60_17, r60_18, r60_19, r60_20, r60_21, r60_27, r60_30, am_li0, am_liS, am_laR0, s_0 hE, s_1 hE, s_a hE (show 0 < 6 by decide), p0, hs.1, h1, i1, i2, hk, h, nI_1, Nat.add_zero, not_false_eq_true, if_true, if_false, List.length_cons, List.length_nil, List.set_cons_succ, List.set_cons_zero, Nat.reduceAdd, Nat.reduceLT, Nat.reduceLeDiff, true_and]
theorem c_count {l : List Sp} {a : Int32} (h6 : s.2.1 0 6 = 1) (hs : sc s 23 l) (hl : l.length ≤ 24) {Q : Option Value → am_S → Prop} : am_Call L xs (d + 1) 59 [.ref 0, .int a] (mk s) Q = Q (some (.int (nI (knC a l)))) (mk s) := by
  have hE : isE 23 := isE_k (Or.inl rfl)
  have r : ∀ Q : Option Value → am_S → Prop, am_Call L xs d 60 [.ref (23 + 13), .int a] (mk s) Q = Q (some (.int (nI (knC a l)))) (mk s) := fun Q => by
    have := c_countOf (L := L) (xs := xs) (d := d) (a := a) hE hs hl (Q := Q) l.length 0 rfl (Nat.zero_le _)
    have this : am_Rn L xs d 60 4 [.ref (23 + 13), .int a, .int 0, .int 0] [] (mk s) Q = _ := this
    rw [← this]
    simp only [e60, r60_0, r60_1, r60_2, r60_3, List.length_cons, List.length_nil, List.set_cons_succ, List.set_cons_zero, Nat.reduceAdd, Nat.reduceLT, true_and]
  have n1 : ¬ (1 : Int32) = 0 := by decide
  simp only [e59, r59_0, r59_1, r59_4, r59_7, r59_8, r59_11, r59_14, r59_15, r59_18, r59_22, am_li0, am_liS, am_laR0, am_tL, g0_3, g0_6, h6, d_1 hE.1, s_oc hE, r, n1, if_false, am_okI, List.length_nil, Nat.zero_le, and_true, true_and]
theorem ix40a (k : Nat) : (40 : Int32) + nI k = nI (40 + k) := by
  show nI 40 + nI k = _
  rw [nI_add]
theorem m_countL {l : List Sp} {a : Int32} (hs : msc s 1 l) (hl : l.length ≤ 24) {Q : Option Value → am_S → Prop} : ∀ (m i : Nat), l.length - i = m → i ≤ l.length →
    am_Rn L xs d 111 4 [.ref 121, .int a, .int (nI (knC a (l.take i))), .int (nI i)] [] (mk s) Q = Q (some (.int (nI (knC a l)))) (mk s)
  | 0, i, hm, hi => by
    have e : i = l.length := by omega
    subst e
    have h1 : nI l.length ≤ nI l.length := nI_le (Nat.le_refl _) (by omega)
    have z1 : am_in 1 4 = true := by decide
    have z2 : (1 : Int32).toNatClampNeg = 1 := rfl
    rw [List.take_length, r111_4]
    simp only [r111_5, r111_6, r111_9, r111_10, r111_11, r111_41, r111_42, am_li0, am_liS, am_laR0, g121_18, a138, hs.1, h1, z1, z2, if_true, true_and]
  | m + 1, i, hm, hi => by
    have h1 : ¬ nI l.length ≤ nI i := nI_ge (by omega) (by omega)
    have z1 : am_in 1 4 = true := by decide
    have z2 : (1 : Int32).toNatClampNeg = 1 := rfl
    have i1 : am_in (nI (40 + i)) 160 = true := in_of (by omega) (by decide)
    have i2 : (nI (40 + i)).toNatClampNeg = 40 + i := nI_clamp (by omega)
    have hg : l[i]? = some l[i] := List.getElem?_eq_getElem (by omega)
    have hk : s.1 139 (40 + i) = l[i].1 := hs.2 i _ hg 0 (by decide)
    have ih := m_countL (a := a) (Q := Q) hs hl m (i + 1) (by omega) (by omega)
    rw [knC_take hg] at ih
    have e0 : ∀ n : Nat, nI n + 0 = nI (n + 0) := fun n => Int32.add_zero _
    rw [← ih, r111_4]
    by_cases h : l[i].1 = a
    · rw [if_pos h]
      simp only [r111_5, r111_6, r111_9, r111_10, r111_11, r111_14, r111_15, r111_16, r111_19, r111_21, r111_22, r111_23, r111_24, r111_25, r111_28, r111_29, r111_33, r111_34, r111_35, r111_38, am_li0, am_liS, am_laR0, g121_18, g121_19, a138, a139, hs.1, h1, z1, z2, ix40a, i1, i2, hk, h, nI_1, not_true, if_false, List.length_cons, List.length_nil, List.set_cons_succ, List.set_cons_zero, Nat.reduceAdd, Nat.reduceLT, Nat.reduceLeDiff, true_and]
    · rw [if_neg h]
      simp only [r111_5, r111_6, r111_9, r111_10, r111_11, r111_14, r111_15, r111_16, r111_19, r111_21, r111_22, r111_23, r111_24, r111_25, r111_32, r111_33, r111_34, r111_35, r111_38, am_li0, am_liS, am_laR0, g121_18, g121_19, a138, a139, hs.1, h1, z1, z2, ix40a, i1, i2, hk, h, e0, nI_1, not_false_eq_true, if_true, if_false, List.length_cons, List.length_nil, List.set_cons_succ, List.set_cons_zero, Nat.reduceAdd, Nat.reduceLT, Nat.reduceLeDiff, true_and]
theorem m_count {l : List Sp} {a : Int32} (hs : msc s 1 l) (hl : l.length ≤ 24) {Q : Option Value → am_S → Prop} : am_Call L xs d 111 [.ref 121, .int a] (mk s) Q = Q (some (.int (nI (knC a l)))) (mk s) := by
  have := m_countL (L := L) (xs := xs) (d := d) (a := a) hs hl (Q := Q) l.length 0 rfl (Nat.zero_le _)
  have this : am_Rn L xs d 111 4 [.ref 121, .int a, .int 0, .int 0] [] (mk s) Q = _ := this
  rw [← this]
  simp only [e111, r111_0, r111_1, r111_2, r111_3, List.length_cons, List.length_nil, List.set_cons_succ, List.set_cons_zero, Nat.reduceAdd, Nat.reduceLT, true_and]
/-- partner -/
theorem c_partnerT {t : Tr} {M : Pr} {n : Nat} (h6 : s.2.1 0 6 = 1) (hc : cT s 18 t) (hw : tW t) (hn : n < t.1) (hM : s.1 25 n = oI (M.1 n)) {Q : Option Value → am_S → Prop} : am_Call L xs (d + 1) 56 [.ref 0, .int (nI n)] (mk s) Q = Q (some (.int (oI (M.1 n)))) (mk s) := by
  have h12 := hw.1
  have n1 : ¬ (1 : Int32) = 0 := by decide
  have hE : isE 23 := isE_k (Or.inl rfl)
  have hP' : isP 24 := hE.1.2.2.2.2.2.2
  have r : ∀ Q : Option Value → am_S → Prop, am_Call L xs d 44 [.ref (23 + 1), .int (nI n)] (mk s) Q = Q (some (.int (oI (M.1 n)))) (mk s) := fun Q => by
    rw [← hM]; exact c_partnerOf (P := 24) hP' (by omega)
  simp only [e56, r56_0, r56_1, r56_4, r56_7, r56_8, r56_11, r56_12, r56_15, r56_18, r56_19, r56_22, r56_25, r56_26, r56_29, r56_33, am_li0, am_liS, am_laR0, am_tL, g0_2, g0_3, g0_6, h6, f_oc isF_18, c_hasT isF_18 hc hw (x := nI n) ⟨n, hn, rfl⟩, d_0 hE.1, p_oc hP', r, n1, if_false, am_okI, List.length_nil, Nat.zero_le, and_true, true_and]
theorem c_partnerF {t : Tr} {a : Int32} (h6 : s.2.1 0 6 = 1) (hc : cT s 18 t) (hw : tW t) (hn : ¬ ∃ i, i < t.1 ∧ a = nI i) {Q : Option Value → am_S → Prop} : am_Call L xs (d + 1) 56 [.ref 0, .int a] (mk s) Q = Q (some (.int (-1))) (mk s) := by
  have n1 : ¬ (1 : Int32) = 0 := by decide
  simp only [e56, r56_0, r56_1, r56_4, r56_7, r56_8, r56_11, r56_12, r56_15, r56_32, r56_33, am_li0, am_liS, am_laR0, am_tL, g0_2, g0_6, h6, f_oc isF_18, c_hasF isF_18 hc hw hn, n1, if_true, if_false, am_okI, List.length_nil, Nat.zero_le, and_true, true_and]
theorem m_partnerT {t : Tr} {M : Pr} {n : Nat} (h6 : s.2.1 121 26 = 1) (hc : mT s 3 t) (hw : tW t) (hn : n < t.1) (hM : s.1 146 n = oI (M.1 n)) {Q : Option Value → am_S → Prop} : am_Call L xs d 109 [.ref 121, .int (nI n)] (mk s) Q = Q (some (.int (oI (M.1 n)))) (mk s) := by
  have h12 := hw.1
  have n1 : ¬ (1 : Int32) = 0 := by decide
  have z1 : am_in 3 4 = true := by decide
  have z2 : (3 : Int32).toNatClampNeg = 3 := rfl
  have k0 : ¬ nI n < 0 := nI_pos (by omega)
  have k1 : ¬ nI t.1 ≤ nI n := nI_ge hn (by omega)
  have k2 : am_in (nI n) 12 = true := in_of (by omega) (by decide)
  have k3 : (nI n).toNatClampNeg = n := nI_clamp (by omega)
  simp only [e109, r109_0, r109_1, r109_4, r109_7, r109_8, r109_11, r109_12, r109_13, r109_16, r109_17, r109_18, r109_21, r109_22, r109_25, r109_26, r109_27, r109_31, am_li0, am_liS, am_laR0, g121_0, g121_26, g121_27, a122, a146, h6, hc.1, z1, z2, k0, k1, k2, k3, hM, n1, if_false, true_and]
theorem m_partnerF {t : Tr} {a : Int32} (h6 : s.2.1 121 26 = 1) (hc : mT s 3 t) (hw : tW t) (hn : ¬ ∃ i, i < t.1 ∧ a = nI i) {Q : Option Value → am_S → Prop} : am_Call L xs d 109 [.ref 121, .int a] (mk s) Q = Q (some (.int (-1))) (mk s) := by
  have h12 := hw.1
  have n1 : ¬ (1 : Int32) = 0 := by decide
  have z1 : am_in 3 4 = true := by decide
  have z2 : (3 : Int32).toNatClampNeg = 3 := rfl
  rcases pk_ix a (n := t.1) (by omega) with q | q | q
  · simp only [e109, r109_0, r109_1, r109_4, r109_7, r109_8, r109_30, r109_31, am_li0, am_liS, am_laR0, g121_26, h6, q, n1, if_true, if_false, true_and]
  · have q : nI t.1 ≤ a := q
    by_cases c : a < 0
    · simp only [e109, r109_0, r109_1, r109_4, r109_7, r109_8, r109_30, r109_31, am_li0, am_liS, am_laR0, g121_26, h6, c, n1, if_true, if_false, true_and]
    · simp only [e109, r109_0, r109_1, r109_4, r109_7, r109_8, r109_11, r109_12, r109_13, r109_16, r109_17, r109_18, r109_30, r109_31, am_li0, am_liS, am_laR0, g121_0, g121_26, a122, h6, hc.1, z1, z2, c, q, n1, if_true, if_false, true_and]
  · exact absurd q hn
/-- step -/
theorem c_stepT {l : List Sp} {k j : Nat} {p : Sp} (h6 : s.2.1 0 6 = 1) (hs : sc s 23 l) (hl : l.length ≤ 24) (hk : l[k]? = some p) (hj : j < 6) {Q : Option Value → am_S → Prop} : am_Call L xs (d + 1) 57 [.ref 0, .int (nI k), .int (nI j)] (mk s) Q = Q (some (.int (spC p j))) (mk s) := by
  have hE : isE 23 := isE_k (Or.inl rfl)
  have hkl : k < l.length := (List.getElem?_eq_some_iff.mp hk).1
  have n1 : ¬ (1 : Int32) = 0 := by decide
  have k0 : ¬ nI k < 0 := nI_pos (by omega)
  have k1 : ¬ nI l.length ≤ nI k := nI_ge hkl (by omega)
  have k2 : am_in (nI k) 24 = true := in_of (by omega) (by decide)
  have k3 : (nI k).toNatClampNeg = k := nI_clamp (by omega)
  have j0 : ¬ nI j < 0 := nI_pos (by omega)
  have j1 : nI j < 6 := nI_lt (b := 6) hj (by decide)
  have e := hs.2 k p hk j hj
  have el : s.2.1 (23 + 13) 1 = nI l.length := hs.1
  have r : ∀ Q : Option Value → am_S → Prop, am_Call L xs d 58 [.ref (23 + 13), .int (nI k), .int (nI j)] (mk s) Q = Q (some (.int (spC p j))) (mk s) := fun Q => by
    simp only [e58, r58_0, r58_1, r58_4, r58_5, r58_6, r58_7, r58_8, am_li0, am_liS, am_laR0, s_0 hE, s_p hE hj, s_a hE hj, k2, k3, e, true_and]
  simp only [e57, r57_0, r57_1, r57_4, r57_7, r57_8, r57_11, r57_12, r57_13, r57_16, r57_19, r57_22, r57_25, r57_26, r57_29, r57_30, r57_32, r57_38, r57_39, r57_42, r57_45, r57_46, r57_47, r57_50, am_li0, am_liS, am_laR0, am_tL, g0_3, g0_6, h6, d_1 hE.1, s_1 hE, s_oc hE, el, k0, k1, j0, j1, r, n1, if_true, if_false, am_okI, List.length_nil, Nat.zero_le, and_true, true_and]
theorem m_stepT {l : List Sp} {k j : Nat} {p : Sp} (h6 : s.2.1 121 26 = 1) (hs : msc s 1 l) (hl : l.length ≤ 24) (hk : l[k]? = some p) (hj : j < 6) {Q : Option Value → am_S → Prop} : am_Call L xs d 110 [.ref 121, .int (nI k), .int (nI j)] (mk s) Q = Q (some (.int (spC p j))) (mk s) := by
  have hkl : k < l.length := (List.getElem?_eq_some_iff.mp hk).1
  have n1 : ¬ (1 : Int32) = 0 := by decide
  have z1 : am_in 1 4 = true := by decide
  have z2 : (1 : Int32).toNatClampNeg = 1 := rfl
  have k0 : ¬ nI k < 0 := nI_pos (by omega)
  have k1 : ¬ nI l.length ≤ nI k := nI_ge hkl (by omega)
  have k2 : am_in (nI (40 + k)) 160 = true := in_of (by omega) (by decide)
  have k3 : (nI (40 + k)).toNatClampNeg = 40 + k := nI_clamp (by omega)
  have e := hs.2 k p hk j hj
  have ej : j = 0 ∨ j = 1 ∨ j = 2 ∨ j = 3 ∨ j = 4 ∨ j = 5 := by omega
  rcases ej with rfl | rfl | rfl | rfl | rfl | rfl
  · have e : s.1 139 (40 + k) = spC p 0 := e
    have c0 : ¬ nI 0 < 0 := by decide
    have c1 : nI 0 ≤ 5 := by decide
    have c2 : ¬ ¬ nI 0 = 0 := by decide
    simp only [e110, r110_0, r110_1, r110_4, r110_7, r110_8, r110_11, r110_12, r110_13, r110_16, r110_17, r110_18, r110_21, r110_22, r110_25, r110_26, r110_27, r110_33, r110_35, r110_36, r110_37, r110_38, r110_39, r110_42, r110_43, r110_46, r110_47, r110_48, r110_113, am_li0, am_liS, am_laR0, g121_18, g121_19, g121_26, a138, a139, h6, hs.1, z1, z2, k0, k1, ix40a, k2, k3, c0, c1, c2, e, n1, if_true, if_false, List.length_cons, List.length_nil, List.set_cons_succ, List.set_cons_zero, Nat.reduceAdd, Nat.reduceLT, true_and]
  · have e : s.1 140 (40 + k) = spC p 1 := e
    have c0 : ¬ nI 1 < 0 := by decide
    have c1 : nI 1 ≤ 5 := by decide
    have c2 : ¬ nI 1 = 0 := by decide
    have c3 : ¬ ¬ nI 1 = 1 := by decide
    simp only [e110, r110_0, r110_1, r110_4, r110_7, r110_8, r110_11, r110_12, r110_13, r110_16, r110_17, r110_18, r110_21, r110_22, r110_25, r110_26, r110_27, r110_33, r110_35, r110_36, r110_37, r110_38, r110_39, r110_51, r110_52, r110_53, r110_56, r110_57, r110_60, r110_61, r110_62, r110_113, am_li0, am_liS, am_laR0, g121_18, g121_20, g121_26, a138, a140, h6, hs.1, z1, z2, k0, k1, ix40a, k2, k3, c0, c1, c2, c3, e, n1, not_false_eq_true, if_true, if_false, List.length_cons, List.length_nil, List.set_cons_succ, List.set_cons_zero, Nat.reduceAdd, Nat.reduceLT, true_and]
  · have e : s.1 141 (40 + k) = spC p 2 := e
    have c0 : ¬ nI 2 < 0 := by decide
    have c1 : nI 2 ≤ 5 := by decide
    have c2 : ¬ nI 2 = 0 := by decide
    have c3 : ¬ nI 2 = 1 := by decide
    have c4 : ¬ ¬ nI 2 = 2 := by decide
    simp only [e110, r110_0, r110_1, r110_4, r110_7, r110_8, r110_11, r110_12, r110_13, r110_16, r110_17, r110_18, r110_21, r110_22, r110_25, r110_26, r110_27, r110_33, r110_35, r110_36, r110_37, r110_38, r110_39, r110_51, r110_52, r110_53, r110_65, r110_66, r110_67, r110_70, r110_71, r110_74, r110_75, r110_76, r110_113, am_li0, am_liS, am_laR0, g121_18, g121_21, g121_26, a138, a141, h6, hs.1, z1, z2, k0, k1, ix40a, k2, k3, c0, c1, c2, c3, c4, e, n1, not_false_eq_true, if_true, if_false, List.length_cons, List.length_nil, List.set_cons_succ, List.set_cons_zero, Nat.reduceAdd, Nat.reduceLT, true_and]
  · have e : s.1 142 (40 + k) = spC p 3 := e
    have c0 : ¬ nI 3 < 0 := by decide
    have c1 : nI 3 ≤ 5 := by decide
    have c2 : ¬ nI 3 = 0 := by decide
    have c3 : ¬ nI 3 = 1 := by decide
    have c4 : ¬ nI 3 = 2 := by decide
    have c5 : ¬ ¬ nI 3 = 3 := by decide
    simp only [e110, r110_0, r110_1, r110_4, r110_7, r110_8, r110_11, r110_12, r110_13, r110_16, r110_17, r110_18, r110_21, r110_22, r110_25, r110_26, r110_27, r110_33, r110_35, r110_36, r110_37, r110_38, r110_39, r110_51, r110_52, r110_53, r110_65, r110_66, r110_67, r110_79, r110_80, r110_81, r110_84, r110_85, r110_88, r110_89, r110_90, r110_113, am_li0, am_liS, am_laR0, g121_18, g121_22, g121_26, a138, a142, h6, hs.1, z1, z2, k0, k1, ix40a, k2, k3, c0, c1, c2, c3, c4, c5, e, n1, not_false_eq_true, if_true, if_false, List.length_cons, List.length_nil, List.set_cons_succ, List.set_cons_zero, Nat.reduceAdd, Nat.reduceLT, true_and]
  · have e : s.1 143 (40 + k) = spC p 4 := e
    have c0 : ¬ nI 4 < 0 := by decide
    have c1 : nI 4 ≤ 5 := by decide
    have c2 : ¬ nI 4 = 0 := by decide
    have c3 : ¬ nI 4 = 1 := by decide
    have c4 : ¬ nI 4 = 2 := by decide
    have c5 : ¬ nI 4 = 3 := by decide
    have c6 : ¬ ¬ nI 4 = 4 := by decide
    simp only [e110, r110_0, r110_1, r110_4, r110_7, r110_8, r110_11, r110_12, r110_13, r110_16, r110_17, r110_18, r110_21, r110_22, r110_25, r110_26, r110_27, r110_33, r110_35, r110_36, r110_37, r110_38, r110_39, r110_51, r110_52, r110_53, r110_65, r110_66, r110_67, r110_79, r110_80, r110_81, r110_93, r110_94, r110_95, r110_98, r110_99, r110_102, r110_103, r110_104, r110_113, am_li0, am_liS, am_laR0, g121_18, g121_23, g121_26, a138, a143, h6, hs.1, z1, z2, k0, k1, ix40a, k2, k3, c0, c1, c2, c3, c4, c5, c6, e, n1, not_false_eq_true, if_true, if_false, List.length_cons, List.length_nil, List.set_cons_succ, List.set_cons_zero, Nat.reduceAdd, Nat.reduceLT, true_and]
  · have e : s.1 144 (40 + k) = spC p 5 := e
    have c0 : ¬ nI 5 < 0 := by decide
    have c1 : nI 5 ≤ 5 := by decide
    have c2 : ¬ nI 5 = 0 := by decide
    have c3 : ¬ nI 5 = 1 := by decide
    have c4 : ¬ nI 5 = 2 := by decide
    have c5 : ¬ nI 5 = 3 := by decide
    have c6 : ¬ nI 5 = 4 := by decide
    simp only [e110, r110_0, r110_1, r110_4, r110_7, r110_8, r110_11, r110_12, r110_13, r110_16, r110_17, r110_18, r110_21, r110_22, r110_25, r110_26, r110_27, r110_33, r110_35, r110_36, r110_37, r110_38, r110_39, r110_51, r110_52, r110_53, r110_65, r110_66, r110_67, r110_79, r110_80, r110_81, r110_93, r110_94, r110_95, r110_107, r110_108, r110_111, r110_112, r110_113, am_li0, am_liS, am_laR0, g121_18, g121_24, g121_26, a138, a144, h6, hs.1, z1, z2, k0, k1, ix40a, k2, k3, c0, c1, c2, c3, c4, c5, c6, e, n1, not_false_eq_true, if_true, if_false, List.length_cons, List.length_nil, List.set_cons_succ, List.set_cons_zero, Nat.reduceAdd, Nat.reduceLT, true_and]
theorem c_stepF {l : List Sp} {a b : Int32} (h6 : s.2.1 0 6 = 1) (hs : sc s 23 l) (h : a < 0 ∨ nI l.length ≤ a ∨ b < 0 ∨ 6 ≤ b) {Q : Option Value → am_S → Prop} : am_Call L xs (d + 1) 57 [.ref 0, .int a, .int b] (mk s) Q = Q (some (.int (-2))) (mk s) := by
  have hE : isE 23 := isE_k (Or.inl rfl)
  have n1 : ¬ (1 : Int32) = 0 := by decide
  have el : s.2.1 (23 + 13) 1 = nI l.length := hs.1
  by_cases q1 : a < 0
  · simp only [e57, r57_0, r57_1, r57_4, r57_7, r57_8, r57_35, r57_37, am_li0, am_liS, am_laR0, g0_6, h6, q1, n1, if_true, if_false]
  · by_cases q2 : nI l.length ≤ a
    · simp only [e57, r57_0, r57_1, r57_4, r57_7, r57_8, r57_11, r57_12, r57_13, r57_16, r57_19, r57_22, r57_35, r57_37, am_li0, am_liS, am_laR0, g0_3, g0_6, h6, d_1 hE.1, s_1 hE, el, q1, q2, n1, if_true, if_false]
    · by_cases q3 : b < 0
      · simp only [e57, r57_0, r57_1, r57_4, r57_7, r57_8, r57_11, r57_12, r57_13, r57_16, r57_19, r57_22, r57_25, r57_26, r57_35, r57_37, am_li0, am_liS, am_laR0, g0_3, g0_6, h6, d_1 hE.1, s_1 hE, el, q1, q2, q3, n1, if_true, if_false]
      · have q4 : ¬ b < 6 := by
          rcases h with q | q | q | q
          · exact absurd q q1
          · exact absurd q q2
          · exact absurd q q3
          · exact Int32.not_lt.mpr q
        simp only [e57, r57_0, r57_1, r57_4, r57_7, r57_8, r57_11, r57_12, r57_13, r57_16, r57_19, r57_22, r57_25, r57_26, r57_29, r57_30, r57_32, r57_35, r57_37, am_li0, am_liS, am_laR0, g0_3, g0_6, h6, d_1 hE.1, s_1 hE, el, q1, q2, q3, q4, n1, if_false]
theorem m_stepF {l : List Sp} {a b : Int32} (h6 : s.2.1 121 26 = 1) (hs : msc s 1 l) (h : a < 0 ∨ nI l.length ≤ a ∨ b < 0 ∨ 6 ≤ b) {Q : Option Value → am_S → Prop} : am_Call L xs d 110 [.ref 121, .int a, .int b] (mk s) Q = Q (some (.int (-2))) (mk s) := by
  have n1 : ¬ (1 : Int32) = 0 := by decide
  have z1 : am_in 1 4 = true := by decide
  have z2 : (1 : Int32).toNatClampNeg = 1 := rfl
  by_cases q1 : a < 0
  · simp only [e110, r110_0, r110_1, r110_4, r110_7, r110_8, r110_30, r110_32, am_li0, am_liS, am_laR0, g121_26, h6, q1, n1, if_true, if_false]
  · by_cases q2 : nI l.length ≤ a
    · simp only [e110, r110_0, r110_1, r110_4, r110_7, r110_8, r110_11, r110_12, r110_13, r110_16, r110_17, r110_18, r110_30, r110_32, am_li0, am_liS, am_laR0, g121_18, g121_26, a138, h6, hs.1, z1, z2, q1, q2, n1, if_true, if_false, true_and]
    · by_cases q3 : b < 0
      · simp only [e110, r110_0, r110_1, r110_4, r110_7, r110_8, r110_11, r110_12, r110_13, r110_16, r110_17, r110_18, r110_21, r110_22, r110_30, r110_32, am_li0, am_liS, am_laR0, g121_18, g121_26, a138, h6, hs.1, z1, z2, q1, q2, q3, n1, if_true, if_false, true_and]
      · have q4 : ¬ b ≤ 5 := by
          rcases h with q | q | q | q
          · exact absurd q q1
          · exact absurd q q2
          · exact absurd q q3
          · intro c
            rw [Int32.le_iff_toInt_le] at c q
            have e5 : (5 : Int32).toInt = 5 := rfl
            have e6 : (6 : Int32).toInt = 6 := rfl
            omega
        simp only [e110, r110_0, r110_1, r110_4, r110_7, r110_8, r110_11, r110_12, r110_13, r110_16, r110_17, r110_18, r110_21, r110_22, r110_25, r110_26, r110_27, r110_30, r110_32, am_li0, am_liS, am_laR0, g121_18, g121_26, a138, h6, hs.1, z1, z2, q1, q2, q3, q4, n1, if_false, true_and]
end
