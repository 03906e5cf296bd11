/-! merge: the class's small questions -/
section
variable {L : Nat} {xs : Nat → Int32} {d : Nat} {s : St}
theorem g53_0 {f : Value → Prop} : am_fd (mk s) 53 5 0 f = f (.ref 54) := mk_fd (.inl 54) rfl rfl
theorem g53_1 {f : Value → Prop} : am_fd (mk s) 53 5 1 f = f (.ref 59) := mk_fd (.inl 59) rfl rfl
theorem g53_2 {f : Value → Prop} : am_fd (mk s) 53 5 2 f = f (.ref 89) := mk_fd (.inl 89) rfl rfl
theorem g53_3 {f : Value → Prop} : am_fd (mk s) 53 5 3 f = f (.ref (59 + 13)) := mk_fd (.inl 72) rfl rfl
theorem g53_4 {f : Value → Prop} : am_fd (mk s) 53 5 4 f = f (.ref (89 + 13)) := mk_fd (.inl 102) rfl rfl
theorem g53_5 {f : Value → Prop} : am_fd (mk s) 53 5 5 f = f (.ref 119) := mk_fd (.inl 119) rfl rfl
theorem g53_6 {f : Value → Prop} : am_fd (mk s) 53 5 6 f = f (.ref 120) := mk_fd (.inl 120) rfl rfl
theorem g53_7 {f : Value → Prop} : am_fd (mk s) 53 5 7 f = f (.int (s.2.1 53 7)) := mk_fd (.inr 0) rfl rfl
theorem g53_8 {f : Value → Prop} : am_fd (mk s) 53 5 8 f = f (.int (s.2.1 53 8)) := mk_fd (.inr 0) rfl rfl
theorem v53_7 {y o : Nat} {x : Int32} {f : am_S → Prop} : am_wf y o (mk s) 53 5 7 (.int x) f = f (mk (w2 s 53 7 x)) := am_k_wF (sk := in_sk) rfl rfl rfl (fun h => by cases h)
theorem v53_8 {y o : Nat} {x : Int32} {f : am_S → Prop} : am_wf y o (mk s) 53 5 8 (.int x) f = f (mk (w2 s 53 8 x)) := am_k_wF (sk := in_sk) rfl rfl rfl (fun h => by cases h)
theorem a119 {i : Int32} {f : Int32 → Prop} : am_ai 1 (mk s) 119 i f = (am_in i 24 = true ∧ f (s.1 119 i.toNatClampNeg)) := am_k_ai (sk := in_sk) rfl
theorem w119 {i x : Int32} {f : am_S → Prop} : am_wi 1 (mk s) 119 i x f = (am_in i 24 = true ∧ f (mk (w1 s 119 i.toNatClampNeg x))) := am_k_wi (sk := in_sk) rfl
theorem a120 {i : Int32} {f : Int32 → Prop} : am_ai 0 (mk s) 120 i f = (am_in i 12 = true ∧ f (s.1 120 i.toNatClampNeg)) := am_k_ai (sk := in_sk) rfl
theorem w120 {i x : Int32} {f : am_S → Prop} : am_wi 0 (mk s) 120 i x f = (am_in i 12 = true ∧ f (mk (w1 s 120 i.toNatClampNeg x))) := am_k_wi (sk := in_sk) rfl
theorem g_oc : am_oc (mk s) 53 = 5 := mk_oc rfl
/-- where the class stands between two steps of the second script -/
def cG (s : St) (n : Nat) (l1 l2 : List Sp) (S : Mg) : Prop := cR s S.1 ∧ sc s 59 l1 ∧ sc s 89 l2 ∧ s.2.1 53 7 = nI n ∧ s.2.1 53 8 = nI S.2.1 ∧ (∀ j, j < S.2.1 → s.1 120 j = nI (S.2.2.1 j)) ∧ ∀ k, k < 24 → s.1 119 k = bI (S.2.2.2 k)
theorem isE59 : isE 59 := isE_k (Or.inr (Or.inl rfl))
theorem isE89 : isE 89 := isE_k (Or.inr (Or.inr rfl))
theorem sc_lg {D : Nat} {l : List Sp} (h : sc s D l) {j k : Nat} (hj : j < 6) (hk : k < l.length) : s.1 (D + 15 + j) k = lg l j k := by
  have hg : l[k]? = some l[k] := List.getElem?_eq_getElem hk
  rw [lg_at hg]; exact h.2 k _ hg j hj
theorem c_part {D k j : Nat} {l : List Sp} {Q : Option Value → am_S → Prop} (hE : isE D) (hs : sc s D l) (hl : l.length ≤ 24) (hk : k < l.length) (hj : j < 6) : am_Call L xs d 58 [.ref (D + 13), .int (nI k), .int (nI j)] (mk s) Q = Q (some (.int (lg l j k))) (mk s) := by
  have k2 : am_in (nI k) 24 = true := in_of (by omega) (by decide)
  have k3 : (nI k).toNatClampNeg = k := nI_clamp (by omega)
  simp only [e58, r58_0, r58_1, r58_4, r58_5, r58_6, r58_7, r58_8, am_li0, am_liS, am_laR0, s_0 hE, s_p hE hj, s_a hE hj, k2, k3, sc_lg hs hj hk, true_and]
theorem c_fS {D : Nat} {l : List Sp} {a b : Int32} {Q : Option Value → am_S → Prop} (hE : isE D) (hs : sc s D l) (hl : l.length ≤ 24) : ∀ (m i : Nat), l.length - i = m → i ≤ l.length →
    am_Rn L xs d 77 2 [.ref (D + 13), .int a, .int b, .int (nI i)] [] (mk s) Q = Q (some (.int (oI (fiF (sP l a b) m i)))) (mk s)
  | 0, i, hm, hi => by
    have e : i = l.length := by omega
    subst e
    have h1 : nI l.length ≤ nI l.length := nI_le (Nat.le_refl _) (by omega)
    rw [r77_2]
    simp only [r77_3, r77_4, r77_7, r77_42, r77_43, am_li0, am_liS, am_laR0, s_1 hE, hs.1, h1, if_true]
    rfl
  | m + 1, i, hm, hi => by
    have h1 : ¬ nI l.length ≤ nI i := nI_ge (by omega) (by omega)
    have p0 : ∀ f : Nat → Prop, am_ar2 (mk s) (D + 14) 0 f = f (D + 15 + 0) := fun f => s_p (s := s) hE (j := 0) (by decide)
    have p1 : ∀ f : Nat → Prop, am_ar2 (mk s) (D + 14) 1 f = f (D + 15 + 1) := fun f => s_p (s := s) hE (j := 1) (by decide)
    have i1 : am_in (nI i) 24 = true := in_of (by omega) (by decide)
    have i2 : (nI i).toNatClampNeg = i := nI_clamp (by omega)
    have q0 := sc_lg hs (show 0 < 6 by decide) (show i < l.length by omega)
    have q1 := sc_lg hs (show 1 < 6 by decide) (show i < l.length by omega)
    have ih := c_fS (a := a) (b := b) (Q := Q) hE hs hl m (i + 1) (by omega) (by omega)
    rw [fiF_s, r77_2]
    by_cases c1 : lg l 0 i = a
    · by_cases c2 : lg l 1 i = b
      · have c : sP l a b i = true := by unfold sP; rw [decide_eq_true c1, decide_eq_true c2]; rfl
        rw [if_pos c, oI_some]
        simp only [r77_3, r77_4, r77_7, r77_10, r77_11, r77_14, r77_15, r77_16, r77_17, r77_18, r77_19, r77_22, r77_23, r77_26, r77_27, r77_28, r77_29, r77_30, r77_31, r77_34, r77_35, am_li0, am_liS, am_laR0, s_0 hE, s_1 hE, s_a hE (show 0 < 6 by decide), s_a hE (show 1 < 6 by decide), p0, p1, hs.1, h1, i1, i2, q0, q1, c1, c2, not_true, if_false, true_and]
      · have c : ¬ sP l a b i = true := by unfold sP; rw [decide_eq_false c2, Bool.and_false]; decide
        rw [if_neg c, ← ih]
        simp only [r77_3, r77_4, r77_7, r77_10, r77_11, r77_14, r77_15, r77_16, r77_17, r77_18, r77_19, r77_22, r77_23, r77_26, r77_27, r77_28, r77_29, r77_30, r77_31, r77_36, r77_39, am_li0, am_liS, am_laR0, s_0 hE, s_1 hE, s_a hE (show 0 < 6 by decide), s_a hE (show 1 < 6 by decide), p0, p1, hs.1, h1, i1, i2, q0, q1, c1, c2, nI_1, not_true, not_false_eq_true, if_true, if_false, List.set_cons_succ, List.set_cons_zero, true_and]
    · have c : ¬ sP l a b i = true := by unfold sP; rw [decide_eq_false c1, Bool.false_and]; decide
      rw [if_neg c, ← ih]
      simp only [r77_3, r77_4, r77_7, r77_10, r77_11, r77_14, r77_15, r77_16, r77_17, r77_18, r77_19, r77_36, r77_39, am_li0, am_liS, am_laR0, s_0 hE, s_1 hE, s_a hE (show 0 < 6 by decide), p0, hs.1, h1, i1, i2, q0, c1, nI_1, not_false_eq_true, if_true, if_false, List.set_cons_succ, List.set_cons_zero, true_and]
theorem c_sfind {D : Nat} {l : List Sp} {a b : Int32} {Q : Option Value → am_S → Prop} (hE : isE D) (hs : sc s D l) (hl : l.length ≤ 24) : am_Call L xs d 77 [.ref (D + 13), .int a, .int b] (mk s) Q = Q (some (.int (oI (fdS l a b)))) (mk s) := by
  have r := c_fS (L := L) (xs := xs) (d := d) (a := a) (b := b) (Q := Q) hE hs hl l.length 0 rfl (Nat.zero_le _)
  have r : am_Rn L xs d 77 2 [.ref (D + 13), .int a, .int b, .int 0] [] (mk s) Q = _ := r
  refine Eq.trans ?_ r
  simp only [e77, r77_0, r77_1, List.length_cons, List.length_nil, List.set_cons_succ, List.set_cons_zero, Nat.reduceAdd, Nat.reduceLT, true_and]
theorem c_hasR {R : Rs} {x : Int32} {Q : Option Value → am_S → Prop} (hR : rOk R) (h : cR s R) : am_Call L xs d 9 [.ref 54, .int x] (mk s) Q = Q (some (.int (bI (hsB R.2.1 x)))) (mk s) := by
  rw [c_has isF_54 (by decide) h.1 hR.1]
  have e := cR_hs hR h x
  unfold bI
  by_cases c : hsB R.2.1 x = true
  · rw [if_pos c]
    have e2 : ∃ j, j < R.1 ∧ x = nI j ∧ ¬ s.1 (54 + 1) j = -2 := e.mpr c
    rw [if_pos e2]
  · rw [if_neg c]
    have e2 : ¬ ∃ j, j < R.1 ∧ x = nI j ∧ ¬ s.1 (54 + 1) j = -2 := fun q => c (e.mp q)
    rw [if_neg e2]
/-- names -/
theorem sub_k : ∀ (n : Fin 13) (k : Fin 36), (k.val < n.val → nI k.val - nI n.val < 0) ∧ (n.val ≤ k.val → nI k.val - nI n.val = nI (k.val - n.val)) ∧ -1 - nI n.val < 0 := by decide +kernel
theorem c_meaning {n : Nat} {l1 l2 : List Sp} {S : Mg} {z : Int32} {Q : Option Value → am_S → Prop} (h : cG s n l1 l2 S) (hn : n ≤ 12) (hi : S.2.1 ≤ 12) (hz : rfO (n + S.2.1) z) : am_Call L xs d 71 [.ref 53, .int z] (mk s) Q = Q (some (.int (mea n S.2.2.1 z))) (mk s) := by
  obtain ⟨-, -, -, g7, g8, gm, -⟩ := h
  unfold mea
  rcases hz with rfl | ⟨k, k1, rfl⟩
  · have e := (sub_k ⟨n, by omega⟩ ⟨0, by decide⟩).2.2
    have e : -1 - nI n < 0 := e
    rw [if_pos (by decide)]
    simp only [e71, r71_0, r71_1, r71_2, r71_5, r71_6, r71_7, r71_8, r71_28, r71_29, am_li0, am_liS, am_laR0, g53_7, g7, e, if_true, List.length_cons, List.length_nil, List.set_cons_succ, List.set_cons_zero, Nat.reduceAdd, Nat.reduceLT, true_and]
  · rw [if_neg (nI_pos (by omega)), nI_clamp (by omega)]
    obtain ⟨e1, e2, -⟩ := sub_k ⟨n, by omega⟩ ⟨k, by omega⟩
    dsimp only at e1 e2
    by_cases c : k < n
    · have e := e1 c
      rw [if_pos c]
      simp only [e71, r71_0, r71_1, r71_2, r71_5, r71_6, r71_7, r71_8, r71_28, r71_29, am_li0, am_liS, am_laR0, g53_7, g7, e, if_true, List.length_cons, List.length_nil, List.set_cons_succ, List.set_cons_zero, Nat.reduceAdd, Nat.reduceLT, true_and]
    · have e := e2 (by omega)
      have c0 : ¬ nI (k - n) < 0 := nI_pos (by omega)
      have c1 : ¬ nI S.2.1 ≤ nI (k - n) := nI_ge (by omega) (by omega)
      have c2 : am_in (nI (k - n)) 12 = true := in_of (by omega) (by decide)
      have c3 : (nI (k - n)).toNatClampNeg = k - n := nI_clamp (by omega)
      have c4 := gm (k - n) (by omega)
      rw [if_neg c]
      simp only [e71, r71_0, r71_1, r71_2, r71_5, r71_6, r71_7, r71_8, r71_11, r71_12, r71_13, r71_16, r71_19, r71_20, r71_23, r71_24, r71_25, r71_29, am_li0, am_liS, am_laR0, g53_6, g53_7, g53_8, a120, g7, g8, e, c0, c1, c2, c3, c4, if_false, List.length_cons, List.length_nil, List.set_cons_succ, List.set_cons_zero, Nat.reduceAdd, Nat.reduceLT, true_and]
theorem c_isPutAt {l : List Sp} {k : Nat} {p b : Int32} {Q : Option Value → am_S → Prop} (hs : sc s 59 l) (hl : l.length ≤ 24) (hk : k < l.length) : am_Call L xs (d + 1) 73 [.ref 53, .int (nI k), .int p, .int b] (mk s) Q = Q (some (.int (bI (decide (lg l 2 k = p) && decide (lg l 3 k = b))))) (mk s) := by
  have p2 : ∀ Q : Option Value → am_S → Prop, am_Call L xs d 58 [.ref (59 + 13), .int (nI k), .int 2] (mk s) Q = _ := fun Q => c_part (j := 2) isE59 hs hl hk (by decide)
  have p3 : ∀ Q : Option Value → am_S → Prop, am_Call L xs d 58 [.ref (59 + 13), .int (nI k), .int 3] (mk s) Q = _ := fun Q => c_part (j := 3) isE59 hs hl hk (by decide)
  have b0 : bI false = 0 := rfl
  have b1 : bI true = 1 := rfl
  by_cases c1 : lg l 2 k = p
  · by_cases c2 : lg l 3 k = b
    · rw [decide_eq_true c1, decide_eq_true c2, Bool.and_self, b1]
      simp only [e73, r73_0, r73_1, r73_4, r73_5, r73_6, r73_9, r73_10, r73_13, r73_14, r73_17, r73_18, r73_19, r73_22, r73_23, r73_26, r73_27, r73_31, am_li0, am_liS, am_laR0, am_tL, g53_3, s_oc isE59, p2, p3, c1, c2, not_true, if_false, am_okI, am_okR, List.length_cons, List.length_nil, Nat.reduceAdd, Nat.zero_le, Nat.reduceLeDiff, and_true, true_and, or_true, eq_self]
    · rw [decide_eq_false c2, Bool.and_false, b0]
      simp only [e73, r73_0, r73_1, r73_4, r73_5, r73_6, r73_9, r73_10, r73_13, r73_14, r73_17, r73_18, r73_19, r73_22, r73_23, r73_30, r73_31, am_li0, am_liS, am_laR0, am_tL, g53_3, s_oc isE59, p2, p3, c1, c2, not_true, not_false_eq_true, if_true, if_false, am_okI, am_okR, List.length_cons, List.length_nil, Nat.reduceAdd, Nat.zero_le, Nat.reduceLeDiff, and_true, true_and, true_or, eq_self]
  · rw [decide_eq_false c1, Bool.false_and, b0]
    simp only [e73, r73_0, r73_1, r73_4, r73_5, r73_6, r73_9, r73_10, r73_30, r73_31, am_li0, am_liS, am_laR0, am_tL, g53_3, s_oc isE59, p2, c1, not_false_eq_true, if_true, am_okI, am_okR, List.length_cons, List.length_nil, Nat.reduceAdd, Nat.zero_le, Nat.reduceLeDiff, and_true, true_and, true_or, eq_self]
theorem c_canPut {R : Rs} {p b : Int32} {Q : Option Value → am_S → Prop} (hR : rOk R) (h : cR s R) : am_Call L xs (d + 1) 75 [.ref 53, .int p, .int b] (mk s) Q = Q (some (.int (bI (canB R p b)))) (mk s) := by
  have h36 := hR.1
  have n1 : ¬ (1 : Int32) = 0 := by decide
  have b0 : bI false = 0 := rfl
  have b1 : bI true = 1 := rfl
  have S1 : am_Call L xs (d + 1) 75 [.ref 53, .int p, .int b] (mk s) Q = am_Rn L xs (d + 1) 75 22 [.ref 53, .int p, .int b, .int (bI (decide (p = -1) || hsB R.2.1 p)), .retAddr 0] [] (mk s) Q := by
    by_cases c : p = -1
    · rw [decide_eq_true c, Bool.true_or, b1]
      simp only [e75, r75_0, r75_1, r75_2, r75_16, r75_17, r75_21, am_li0, am_liS, am_laR0, c, if_true, List.length_cons, List.length_nil, List.set_cons_succ, List.set_cons_zero, Nat.reduceAdd, Nat.reduceLT, true_and]
    · rw [decide_eq_false c, Bool.false_or]
      have hh := fun Q => c_hasR (L := L) (xs := xs) (d := d) (x := p) (Q := Q) hR h
      cases hp : hsB R.2.1 p with
      | true =>
        rw [hp, b1] at hh
        rw [b1]
        simp only [e75, r75_0, r75_1, r75_2, r75_5, r75_6, r75_9, r75_10, r75_13, r75_16, r75_17, r75_21, am_li0, am_liS, am_laR0, am_tL, g53_0, f_oc isF_54, hh, c, n1, if_false, am_okI, am_okR, List.length_cons, List.length_nil, List.set_cons_succ, List.set_cons_zero, Nat.reduceAdd, Nat.reduceLT, Nat.zero_le, Nat.reduceLeDiff, and_true, true_and]
      | false =>
        rw [hp, b0] at hh
        rw [b0]
        simp only [e75, r75_0, r75_1, r75_2, r75_5, r75_6, r75_9, r75_10, r75_13, r75_20, r75_21, am_li0, am_liS, am_laR0, am_tL, g53_0, f_oc isF_54, hh, c, if_true, if_false, am_okI, am_okR, List.length_cons, List.length_nil, List.set_cons_succ, List.set_cons_zero, Nat.reduceAdd, Nat.reduceLT, Nat.zero_le, Nat.reduceLeDiff, and_true, true_and]
  have S2 : ∀ v3 : Value, am_Rn L xs (d + 1) 75 22 [.ref 53, .int p, .int b, v3, .retAddr 0] [] (mk s) Q = am_Rn L xs (d + 1) 75 58 [.ref 53, .int p, .int b, v3, .int (bI (decide (b = -1) || (hsB R.2.1 b && decide (R.2.2.1 b.toNatClampNeg = p))))] [] (mk s) Q := by
    intro v3
    by_cases c : b = -1
    · rw [decide_eq_true c, Bool.true_or, b1]
      simp only [r75_22, r75_23, r75_24, r75_51, r75_52, r75_56, am_li0, am_liS, am_laR0, c, if_true, List.length_cons, List.length_nil, List.set_cons_succ, List.set_cons_zero, Nat.reduceAdd, Nat.reduceLT, true_and]
    · rw [decide_eq_false c, Bool.false_or]
      have hh := fun Q => c_hasR (L := L) (xs := xs) (d := d) (x := b) (Q := Q) hR h
      cases hp : hsB R.2.1 b with
      | false =>
        rw [hp, b0] at hh
        rw [Bool.false_and, b0]
        simp only [r75_22, r75_23, r75_24, r75_27, r75_28, r75_31, r75_32, r75_35, r75_55, r75_56, am_li0, am_liS, am_laR0, am_tL, g53_0, f_oc isF_54, hh, c, if_true, if_false, am_okI, am_okR, List.length_cons, List.length_nil, List.set_cons_succ, List.set_cons_zero, Nat.reduceAdd, Nat.reduceLT, Nat.zero_le, Nat.reduceLeDiff, and_true, true_and]
      | true =>
        obtain ⟨m, m1, rfl⟩ := hsB_iff.mp hp
        rw [hp, b1] at hh
        rw [Bool.true_and, nI_clamp (rOk_lt hR m m1)]
        have mu := hR.2.2.1 m m1
        have k1 : am_in (nI m) 36 = true := in_of (by omega) (by decide)
        have k2 : (nI m).toNatClampNeg = m := nI_clamp (by omega)
        have e1 : s.1 (54 + 1) m = R.2.2.1 m := (h.2.2 m m1).1
        by_cases c2 : R.2.2.1 m = p
        · rw [decide_eq_true c2, b1]
          rw [c2] at e1
          simp only [r75_22, r75_23, r75_24, r75_27, r75_28, r75_31, r75_32, r75_35, r75_38, r75_39, r75_42, r75_45, r75_46, r75_47, r75_48, r75_51, r75_52, r75_56, am_li0, am_liS, am_laR0, am_tL, g53_0, f_oc isF_54, f_par isF_54, fa_par isF_54, hh, c, k1, k2, e1, n1, not_true, if_false, am_okI, am_okR, List.length_cons, List.length_nil, List.set_cons_succ, List.set_cons_zero, Nat.reduceAdd, Nat.reduceLT, Nat.zero_le, Nat.reduceLeDiff, and_true, true_and]
        · rw [decide_eq_false c2, b0]
          simp only [r75_22, r75_23, r75_24, r75_27, r75_28, r75_31, r75_32, r75_35, r75_38, r75_39, r75_42, r75_45, r75_46, r75_47, r75_48, r75_55, r75_56, am_li0, am_liS, am_laR0, am_tL, g53_0, f_oc isF_54, f_par isF_54, fa_par isF_54, hh, c, k1, k2, e1, c2, n1, not_false_eq_true, if_true, if_false, am_okI, am_okR, List.length_cons, List.length_nil, List.set_cons_succ, List.set_cons_zero, Nat.reduceAdd, Nat.reduceLT, Nat.zero_le, Nat.reduceLeDiff, and_true, true_and]
  rw [S1, S2]
  unfold canB
  generalize (decide (p = -1) || hsB R.2.1 p) = A
  generalize (decide (b = -1) || (hsB R.2.1 b && decide (R.2.2.1 b.toNatClampNeg = p))) = B
  cases A with
  | false =>
    rw [Bool.false_and, b0]
    simp only [r75_58, r75_59, r75_71, r75_72, am_li0, am_liS, if_true, true_or, eq_self]
  | true =>
    cases B with
    | false =>
      rw [Bool.and_false, b0, b1]
      simp only [r75_58, r75_59, r75_62, r75_64, r75_71, r75_72, am_li0, am_liS, n1, if_true, if_false, true_or, eq_self]
    | true =>
      rw [Bool.and_self, b1]
      simp only [r75_58, r75_59, r75_62, r75_64, r75_67, r75_68, r75_72, am_li0, am_liS, n1, if_false, or_true, eq_self]
theorem c_ab_loop {R : Rs} {v : Nat} {p : Int32} {Q : Option Value → am_S → Prop} (hR : rOk R) (h : cR s R) (hv : v < 2 ^ 31) : ∀ (m i : Nat) (u : Int32), R.1 - i = m → i ≤ R.1 →
    am_Rn L xs (d + 1) 79 5 [.ref 54, .int p, .int (nI v), .int u, .int (nI i)] [] (mk s) Q = Q (some (.int (bI (wiF R v m u)))) (mk s)
  | 0, i, u, hm, hi => by
    have h36 := hR.1
    have e : i = R.1 := by omega
    subst e
    have h1 : nI R.1 ≤ nI R.1 := nI_le (Nat.le_refl _) (by omega)
    have b0 : bI (wiF R v 0 u) = 0 := rfl
    rw [b0, r79_5]
    simp only [r79_7, r79_8, r79_11, r79_42, r79_43, am_li0, am_liS, am_laR0, f_used isF_54, h.1, h1, if_true, true_or, eq_self]
  | m + 1, i, u, hm, hi => by
    have h36 := hR.1
    have h1 : ¬ nI R.1 ≤ nI i := nI_ge (by omega) (by omega)
    have n1 : ¬ (1 : Int32) = 0 := by decide
    have b0 : bI false = 0 := rfl
    have b1 : bI true = 1 := rfl
    have hh := fun Q => c_hasR (L := L) (xs := xs) (d := d) (x := u) (Q := Q) hR h
    rw [wiF_s, r79_5]
    cases hu : hsB R.2.1 u with
    | false =>
      rw [hu, b0] at hh
      rw [Bool.false_and, b0]
      simp only [r79_7, r79_8, r79_11, r79_14, r79_15, r79_16, r79_19, r79_42, r79_43, am_li0, am_liS, am_laR0, am_tL, f_used isF_54, f_oc isF_54, h.1, h1, hh, if_true, if_false, am_okI, am_okR, List.length_cons, List.length_nil, Nat.reduceAdd, Nat.zero_le, Nat.reduceLeDiff, and_true, true_and, true_or, eq_self]
    | true =>
      rw [hu, b1] at hh
      rw [Bool.true_and]
      by_cases e : u = nI v
      · subst e
        rw [decide_eq_true rfl, Bool.true_or, b1]
        simp only [r79_7, r79_8, r79_11, r79_14, r79_15, r79_16, r79_19, r79_22, r79_23, r79_24, r79_27, r79_28, am_li0, am_liS, am_laR0, am_tL, f_used isF_54, f_oc isF_54, h.1, h1, hh, n1, not_true, if_false, am_okI, am_okR, List.length_cons, List.length_nil, Nat.reduceAdd, Nat.zero_le, Nat.reduceLeDiff, and_true, true_and, or_true, eq_self]
      · obtain ⟨z, z1, rfl⟩ := hsB_iff.mp hu
        have zu := hR.2.2.1 z z1
        have k1 : am_in (nI z) 36 = true := in_of (by omega) (by decide)
        have k2 : (nI z).toNatClampNeg = z := nI_clamp (by omega)
        have e1 : s.1 (54 + 1) z = R.2.2.1 z := (h.2.2 z z1).1
        rw [decide_eq_false e, Bool.false_or, k2, ← c_ab_loop (p := p) (Q := Q) hR h hv m (i + 1) (R.2.2.1 z) (by omega) (by omega)]
        simp only [r79_7, r79_8, r79_11, r79_14, r79_15, r79_16, r79_19, r79_22, r79_23, r79_24, r79_29, r79_30, r79_33, r79_34, r79_35, r79_36, r79_39, am_li0, am_liS, am_laR0, am_tL, f_used isF_54, f_oc isF_54, f_par isF_54, fa_par isF_54, h.1, h1, hh, e, e1, k1, k2, n1, nI_1, not_false_eq_true, if_true, if_false, am_okI, am_okR, List.length_cons, List.length_nil, List.set_cons_succ, List.set_cons_zero, Nat.reduceAdd, Nat.reduceLT, Nat.zero_le, Nat.reduceLeDiff, and_true, true_and]
theorem c_isAtOrBelow {R : Rs} {v : Nat} {p : Int32} {Q : Option Value → am_S → Prop} (hR : rOk R) (h : cR s R) (hv : v < 2 ^ 31) : am_Call L xs (d + 1) 79 [.ref 54, .int p, .int (nI v)] (mk s) Q = Q (some (.int (bI (wiF R v 37 p)))) (mk s) := by
  have h36 := hR.1
  have r := c_ab_loop (L := L) (xs := xs) (d := d) (p := p) (Q := Q) hR h hv R.1 0 p rfl (Nat.zero_le _)
  have r : am_Rn L xs (d + 1) 79 5 [.ref 54, .int p, .int (nI v), .int p, .int 0] [] (mk s) Q = _ := r
  rw [wiF_fuel hR (show R.1 ≤ 37 by omega) (Nat.le_refl R.1), ← r]
  simp only [e79, r79_0, r79_1, r79_2, r79_3, am_li0, am_liS, List.length_cons, List.length_nil, List.set_cons_succ, List.set_cons_zero, Nat.reduceAdd, Nat.reduceLT, true_and]
end
