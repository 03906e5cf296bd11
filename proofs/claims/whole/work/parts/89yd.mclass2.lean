/-! merge: a step of the second script in the class -/
/-- what a merge's steps may change -/
def frMg (s s' : St) : Prop := (∀ q, ¬ (55 ≤ q ∧ q ≤ 58) → q ≠ 119 → q ≠ 120 → s'.1 q = s.1 q) ∧ (∀ q k, ¬ (q = 54 ∧ k = 4) → ¬ (q = 53 ∧ k = 8) → s'.2.1 q k = s.2.1 q k) ∧ s'.2.2 = s.2.2
theorem frMg_r (s : St) : frMg s s := ⟨fun _ _ _ _ => rfl, fun _ _ _ _ => rfl, rfl⟩
theorem frMg_t {s s1 s2 : St} (h : frMg s s1) (h' : frMg s1 s2) : frMg s s2 := ⟨fun q a b c => (h'.1 q a b c).trans (h.1 q a b c), fun q k a b => (h'.2.1 q k a b).trans (h.2.1 q k a b), h'.2.2.trans h.2.2⟩
theorem frF_Mg {s s' : St} (h : frF 54 s s') : frMg s s' := ⟨fun q a _ _ => h.1 q (by omega), fun q k a _ => h.2.1 q k a, h.2.2⟩
/-- another result, all else as it was -/
theorem cG_F {s s' : St} {n : Nat} {l1 l2 : List Sp} {S : Mg} {R : Rs} (h : cG s n l1 l2 S) (f : frF 54 s s') (hR : cR s' R) : cG s' n l1 l2 (R, S.2) := by
  obtain ⟨-, h2, h3, h4, h5, h6, h7⟩ := h
  exact ⟨hR, sc_F (by decide) f h2, sc_F (by decide) f h3, by rw [f.2.1 _ _ (by omega)]; exact h4, by rw [f.2.1 _ _ (by omega)]; exact h5, fun j hj => by rw [f.1 120 (by omega)]; exact h6 j hj, fun k hk => by rw [f.1 119 (by omega)]; exact h7 k hk⟩
section
variable {L : Nat} {xs : Nat → Int32} {d : Nat} {s : St}
theorem c_ft_loop {n k : Nat} {l1 l2 : List Sp} {S : Mg} {p b : Int32} {Q : Option Value → am_S → Prop} (h : cG s n l1 l2 S) (hl : l1.length ≤ 24) (hl2 : l2.length ≤ 24) (hk : k < l2.length) : ∀ (m i : Nat) (v5 : Value), l1.length - i = m → i ≤ l1.length →
    am_Rn L xs (d + 2) 72 3 [.ref 53, .int (nI k), .int p, .int b, .int (nI i), v5] [] (mk s) Q = Q (some (.int (oI (fiF (tP l1 S.2.2.2 p b (lg l2 4 k) (lg l2 5 k)) m i)))) (mk s)
  | 0, i, v5, hm, hi => by
    obtain ⟨-, hs, -⟩ := h
    have e : i = l1.length := by omega
    subst e
    have h1 : nI l1.length ≤ nI l1.length := nI_le (Nat.le_refl _) (by omega)
    have el : s.2.1 (59 + 13) 1 = nI l1.length := hs.1
    rw [r72_3]
    simp only [r72_5, r72_6, r72_9, r72_12, r72_114, r72_115, am_li0, am_liS, am_laR0, g53_3, s_1 isE59, el, h1, if_true]
    rfl
  | m + 1, i, v5, hm, hi => by
    have h' := h
    obtain ⟨-, hs, hs2, -, -, -, ht⟩ := h
    have h1 : ¬ nI l1.length ≤ nI i := nI_ge (by omega) (by omega)
    have el : s.2.1 (59 + 13) 1 = nI l1.length := hs.1
    have n1 : ¬ (1 : Int32) = 0 := by decide
    have i1 : am_in (nI i) 24 = true := in_of (by omega) (by decide)
    have i2 : (nI i).toNatClampNeg = i := nI_clamp (by omega)
    have p0 : ∀ Q : Option Value → am_S → Prop, am_Call L xs (d + 1) 58 [.ref (59 + 13), .int (nI i), .int 0] (mk s) Q = _ := fun Q => c_part (j := 0) isE59 hs hl (show i < l1.length by omega) (by decide)
    have p4 : ∀ Q : Option Value → am_S → Prop, am_Call L xs (d + 1) 58 [.ref (59 + 13), .int (nI i), .int 4] (mk s) Q = _ := fun Q => c_part (j := 4) isE59 hs hl (show i < l1.length by omega) (by decide)
    have p5 : ∀ Q : Option Value → am_S → Prop, am_Call L xs (d + 1) 58 [.ref (59 + 13), .int (nI i), .int 5] (mk s) Q = _ := fun Q => c_part (j := 5) isE59 hs hl (show i < l1.length by omega) (by decide)
    have q4 : ∀ Q : Option Value → am_S → Prop, am_Call L xs (d + 1) 58 [.ref (89 + 13), .int (nI k), .int 4] (mk s) Q = _ := fun Q => c_part (j := 4) isE89 hs2 hl2 hk (by decide)
    have q5 : ∀ Q : Option Value → am_S → Prop, am_Call L xs (d + 1) 58 [.ref (89 + 13), .int (nI k), .int 5] (mk s) Q = _ := fun Q => c_part (j := 5) isE89 hs2 hl2 hk (by decide)
    have pa : ∀ Q : Option Value → am_S → Prop, am_Call L xs (d + 1) 73 [.ref 53, .int (nI i), .int p, .int b] (mk s) Q = _ := fun Q => c_isPutAt (d := d) hs hl (show i < l1.length by omega)
    have et := ht i (by omega)
    have b0 : bI false = 0 := rfl
    have b1 : bI true = 1 := rfl
    have ih := fun v5 => c_ft_loop (p := p) (b := b) (Q := Q) h' hl hl2 hk m (i + 1) v5 (by omega) (by omega)
    rw [fiF_s, r72_3]
    by_cases c1 : lg l1 0 i = 0
    · cases c2 : S.2.2.2 i with
      | true =>
        rw [c2, b1] at et
        have c : ¬ tP l1 S.2.2.2 p b (lg l2 4 k) (lg l2 5 k) i = true := by unfold tP; rw [c2, Bool.not_true, Bool.and_false, Bool.false_and]; decide
        rw [if_neg c, ← ih (.int 0)]
        simp only [r72_5, r72_6, r72_9, r72_12, r72_15, r72_16, r72_19, r72_21, r72_22, r72_25, r72_28, r72_29, r72_32, r72_34, r72_35, r72_42, r72_43, r72_45, r72_47, r72_108, r72_111, am_li0, am_liS, am_laR0, am_tL, g53_3, g53_5, a119, s_1 isE59, s_oc isE59, el, h1, p0, i1, i2, c1, et, n1, nI_1, not_true, not_false_eq_true, if_true, if_false, am_okI, am_okR, List.length_cons, List.length_nil, List.set_cons_succ, List.set_cons_zero, Nat.reduceAdd, Nat.reduceLT, Nat.zero_le, Nat.reduceLeDiff, and_true, true_and]
      | false =>
        rw [c2, b0] at et
        cases c3 : (decide (lg l1 2 i = p) && decide (lg l1 3 i = b)) with
        | false =>
          rw [c3, b0] at pa
          have c : ¬ tP l1 S.2.2.2 p b (lg l2 4 k) (lg l2 5 k) i = true := by unfold tP; rw [c3, Bool.false_and, Bool.and_false]; decide
          rw [if_neg c, ← ih (.int 1)]
          simp only [r72_5, r72_6, r72_9, r72_12, r72_15, r72_16, r72_19, r72_21, r72_22, r72_25, r72_28, r72_29, r72_32, r72_34, r72_35, r72_38, r72_39, r72_43, r72_45, r72_47, r72_50, r72_51, r72_53, r72_54, r72_55, r72_58, r72_108, r72_111, am_li0, am_liS, am_laR0, am_tL, g53_3, g53_5, a119, s_1 isE59, s_oc isE59, g_oc, el, h1, p0, pa, i1, i2, c1, et, n1, nI_1, not_true, not_false_eq_true, if_true, if_false, am_okI, am_okR, List.length_cons, List.length_nil, List.set_cons_succ, List.set_cons_zero, Nat.reduceAdd, Nat.reduceLT, Nat.zero_le, Nat.reduceLeDiff, and_true, true_and]
        | true =>
          rw [c3, b1] at pa
          by_cases c4 : lg l1 4 i = lg l2 4 k
          · by_cases c5 : lg l1 5 i = lg l2 5 k
            · have c : tP l1 S.2.2.2 p b (lg l2 4 k) (lg l2 5 k) i = true := by unfold tP; rw [c3, c2, decide_eq_true c1, decide_eq_true c4, decide_eq_true c5]; rfl
              rw [if_pos c, oI_some]
              simp only [r72_5, r72_6, r72_9, r72_12, r72_15, r72_16, r72_19, r72_21, r72_22, r72_25, r72_28, r72_29, r72_32, r72_34, r72_35, r72_38, r72_39, r72_43, r72_45, r72_47, r72_50, r72_51, r72_53, r72_54, r72_55, r72_58, r72_61, r72_62, r72_65, r72_67, r72_68, r72_71, r72_72, r72_75, r72_76, r72_77, r72_80, r72_83, r72_84, r72_87, r72_89, r72_90, r72_93, r72_94, r72_97, r72_98, r72_99, r72_102, r72_105, r72_107, am_li0, am_liS, am_laR0, am_tL, g53_3, g53_4, g53_5, a119, s_1 isE59, s_oc isE59, s_oc isE89, g_oc, el, h1, p0, p4, p5, q4, q5, pa, i1, i2, c1, c4, c5, et, n1, not_true, if_false, am_okI, am_okR, List.length_cons, List.length_nil, List.set_cons_succ, List.set_cons_zero, Nat.reduceAdd, Nat.reduceLT, Nat.zero_le, Nat.reduceLeDiff, and_true, true_and]
            · have c : ¬ tP l1 S.2.2.2 p b (lg l2 4 k) (lg l2 5 k) i = true := by unfold tP; rw [decide_eq_false c5, Bool.and_false, Bool.and_false, Bool.and_false]; decide
              rw [if_neg c, ← ih (.int 1)]
              simp only [r72_5, r72_6, r72_9, r72_12, r72_15, r72_16, r72_19, r72_21, r72_22, r72_25, r72_28, r72_29, r72_32, r72_34, r72_35, r72_38, r72_39, r72_43, r72_45, r72_47, r72_50, r72_51, r72_53, r72_54, r72_55, r72_58, r72_61, r72_62, r72_65, r72_67, r72_68, r72_71, r72_72, r72_75, r72_76, r72_77, r72_80, r72_83, r72_84, r72_87, r72_89, r72_90, r72_93, r72_94, r72_97, r72_98, r72_99, r72_102, r72_108, r72_111, am_li0, am_liS, am_laR0, am_tL, g53_3, g53_4, g53_5, a119, s_1 isE59, s_oc isE59, s_oc isE89, g_oc, el, h1, p0, p4, p5, q4, q5, pa, i1, i2, c1, c4, c5, et, n1, nI_1, not_true, not_false_eq_true, if_true, if_false, am_okI, am_okR, List.length_cons, List.length_nil, List.set_cons_succ, List.set_cons_zero, Nat.reduceAdd, Nat.reduceLT, Nat.zero_le, Nat.reduceLeDiff, and_true, true_and]
          · have c : ¬ tP l1 S.2.2.2 p b (lg l2 4 k) (lg l2 5 k) i = true := by unfold tP; rw [decide_eq_false c4, Bool.false_and, Bool.and_false, Bool.and_false]; decide
            rw [if_neg c, ← ih (.int 1)]
            simp only [r72_5, r72_6, r72_9, r72_12, r72_15, r72_16, r72_19, r72_21, r72_22, r72_25, r72_28, r72_29, r72_32, r72_34, r72_35, r72_38, r72_39, r72_43, r72_45, r72_47, r72_50, r72_51, r72_53, r72_54, r72_55, r72_58, r72_61, r72_62, r72_65, r72_67, r72_68, r72_71, r72_72, r72_75, r72_76, r72_77, r72_80, r72_108, r72_111, am_li0, am_liS, am_laR0, am_tL, g53_3, g53_4, g53_5, a119, s_1 isE59, s_oc isE59, s_oc isE89, g_oc, el, h1, p0, p4, q4, pa, i1, i2, c1, c4, et, n1, nI_1, not_true, not_false_eq_true, if_true, if_false, am_okI, am_okR, List.length_cons, List.length_nil, List.set_cons_succ, List.set_cons_zero, Nat.reduceAdd, Nat.reduceLT, Nat.zero_le, Nat.reduceLeDiff, and_true, true_and]
    · have c : ¬ tP l1 S.2.2.2 p b (lg l2 4 k) (lg l2 5 k) i = true := by unfold tP; rw [decide_eq_false c1, Bool.false_and, Bool.false_and]; decide
      rw [if_neg c, ← ih (.int 0)]
      simp only [r72_5, r72_6, r72_9, r72_12, r72_15, r72_16, r72_19, r72_21, r72_22, r72_25, r72_42, r72_43, r72_45, r72_47, r72_108, r72_111, am_li0, am_liS, am_laR0, am_tL, g53_3, s_1 isE59, s_oc isE59, el, h1, p0, c1, nI_1, not_false_eq_true, if_true, if_false, am_okI, am_okR, List.length_cons, List.length_nil, List.set_cons_succ, List.set_cons_zero, Nat.reduceAdd, Nat.reduceLT, Nat.zero_le, Nat.reduceLeDiff, and_true, true_and]
theorem c_findTwin {n k : Nat} {l1 l2 : List Sp} {S : Mg} {p b : Int32} {Q : Option Value → am_S → Prop} (h : cG s n l1 l2 S) (hl : l1.length ≤ 24) (hl2 : l2.length ≤ 24) (hk : k < l2.length) : am_Call L xs (d + 2) 72 [.ref 53, .int (nI k), .int p, .int b] (mk s) Q = Q (some (.int (oI (fdT l1 S.2.2.2 p b (lg l2 4 k) (lg l2 5 k))))) (mk s) := by
  have r := c_ft_loop (L := L) (xs := xs) (d := d) (p := p) (b := b) (Q := Q) h hl hl2 hk l1.length 0 (.retAddr 0) rfl (Nat.zero_le _)
  have r : am_Rn L xs (d + 2) 72 3 [.ref 53, .int (nI k), .int p, .int b, .int 0, .retAddr 0] [] (mk s) Q = _ := r
  refine Eq.trans ?_ r
  simp only [e72, r72_0, r72_1, List.length_cons, List.length_nil, List.set_cons_succ, List.set_cons_zero, Nat.reduceAdd, Nat.reduceLT, true_and]
/-- one more meaning -/
theorem c_remember {n : Nat} {l1 l2 : List Sp} {S : Mg} {v : Nat} (h : cG s n l1 l2 S) (hi : S.2.1 < 12) :
    ∃ s' : St, cG s' n l1 l2 (S.1, S.2.1 + 1, uN S.2.2.1 S.2.1 v, S.2.2.2) ∧ frMg s s' ∧ (∀ q, q ≠ 120 → s'.1 q = s.1 q) ∧ ∀ Q : Option Value → am_S → Prop, am_Call L xs d 74 [.ref 53, .int (nI v)] (mk s) Q = Q none (mk s') := by
  obtain ⟨h1, h2, h3, h4, h5, h6, h7⟩ := h
  generalize hs1 : w2 (w1 s 120 S.2.1 (nI v)) 53 8 (nI (S.2.1 + 1)) = s1
  have a1 : s1.1 120 = upd (s.1 120) S.2.1 (nI v) := by rw [← hs1, w2_1, w1_q]
  have a2 : ∀ q, q ≠ 120 → s1.1 q = s.1 q := fun q hq => by rw [← hs1, w2_1, w1_o _ _ _ hq]
  have a3 : s1.2.1 53 8 = nI (S.2.1 + 1) := by rw [← hs1, w2_a]
  have a4 : ∀ q k, ¬ (q = 53 ∧ k = 8) → s1.2.1 q k = s.2.1 q k := fun q k hq => by rw [← hs1, w2_o _ _ hq, w1_2]
  have a5 : s1.2.2 = s.2.2 := by rw [← hs1]; rfl
  refine ⟨s1, ⟨cR_congr (fun q _ _ => a2 q (by omega)) (a4 _ _ (by omega)) h1, ⟨by rw [a4 _ _ (by omega)]; exact h2.1, fun k p hk j hj => by rw [a2 _ (by omega)]; exact h2.2 k p hk j hj⟩, ⟨by rw [a4 _ _ (by omega)]; exact h3.1, fun k p hk j hj => by rw [a2 _ (by omega)]; exact h3.2 k p hk j hj⟩, by rw [a4 _ _ (by omega)]; exact h4, a3, fun j hj => ?_, fun k hk => by rw [a2 119 (by omega)]; exact h7 k hk⟩, ⟨fun q _ _ q3 => a2 q q3, fun q k _ q2 => a4 q k q2, a5⟩, a2, fun Q => ?_⟩
  · show s1.1 120 j = nI (uN S.2.2.1 S.2.1 v j)
    have hj : j < S.2.1 + 1 := hj
    rw [a1]
    unfold uN
    by_cases e : j = S.2.1
    · rw [if_pos e, e, upd_s]
    · rw [if_neg e, upd_n _ _ e]; exact h6 j (by omega)
  · have c1 : ¬ (12 : Int32) ≤ nI S.2.1 := nI_ge (b := 12) hi (by decide)
    have c2 : am_in (nI S.2.1) 12 = true := in_of hi (by decide)
    have c3 : (nI S.2.1).toNatClampNeg = S.2.1 := nI_clamp (by omega)
    have c4 : ∀ x, (w1 s 120 S.2.1 x).2.1 53 8 = nI S.2.1 := fun x => by rw [w1_2]; exact h5
    simp only [e74, r74_0, r74_1, r74_4, r74_6, r74_9, r74_10, r74_13, r74_14, r74_17, r74_18, r74_19, r74_20, r74_21, r74_24, r74_25, r74_26, r74_29, am_li0, am_liS, am_laR0, g53_6, g53_8, w120, v53_8, h5, c1, c2, c3, c4, nI_1, hs1, if_false, am_okI, am_okR, true_and]
/-- what a step comes to -/
def stepR (L : Nat) (xs : Nat → Int32) (d z : Nat) (n I : Nat) (l1 l2 : List Sp) (S : Mg) (q : Sp) (k : Nat) (s : St) : Prop := ∃ s' : St, frMg s s' ∧ ((∃ S', mg1 n I l1 S q = some S' ∧ cG s' n l1 l2 S' ∧ ∀ Q : Option Value → am_S → Prop, am_Call L xs d z [.ref 53, .int (nI k)] (mk s) Q = Q (some (.int 1)) (mk s')) ∨ (mg1 n I l1 S q = none ∧ ∀ Q : Option Value → am_S → Prop, am_Call L xs d z [.ref 53, .int (nI k)] (mk s) Q = Q (some (.int 0)) (mk s')))
theorem c_mergeUpdate {n I k : Nat} {l1 l2 r : List Sp} {S : Mg} {q : Sp} (h : cG s n l1 l2 S) (hV : mgV n I l1 S (q :: r)) (hl2 : l2.length ≤ 24) (hk : l2[k]? = some q) (h0 : q.1 = 1) : stepR L xs (d + 2) 76 n I l1 l2 S q k s := by
  have h' := h
  obtain ⟨h1, h2, h3, h4, h5, h6, h7⟩ := h
  obtain ⟨⟨v1, v2, v3⟩, hR, v5, v6, v7, v8, v9, v10, v11, v12⟩ := hV
  have hkl : k < l2.length := (List.getElem?_eq_some_iff.mp hk).1
  have hx : ∃ x, x < n ∧ q.2.1 = nI x := by
    rw [nuS_c] at v8
    rcases v8.2.2 with ⟨a, -, -⟩ | ⟨-, a, -⟩ | ⟨a, -, -⟩
    · rw [h0] at a; exact absurd a (by decide)
    · exact a
    · rw [h0] at a; exact absurd a (by decide)
  obtain ⟨x, x1, x2⟩ := hx
  have p1 : ∀ Q : Option Value → am_S → Prop, am_Call L xs (d + 1) 58 [.ref (89 + 13), .int (nI k), .int 1] (mk s) Q = Q (some (.int q.2.1)) (mk s) := fun Q => by
    have := c_part (L := L) (xs := xs) (d := d + 1) (Q := Q) (j := 1) isE89 h3 hl2 hkl (by decide)
    rw [lg_at hk] at this; exact this
  have p5 : ∀ Q : Option Value → am_S → Prop, am_Call L xs (d + 1) 58 [.ref (89 + 13), .int (nI k), .int 5] (mk s) Q = Q (some (.int q.2.2.2.2.2)) (mk s) := fun Q => by
    have := c_part (L := L) (xs := xs) (d := d + 1) (Q := Q) (j := 5) isE89 h3 hl2 hkl (by decide)
    rw [lg_at hk] at this; exact this
  have hh := fun Q => c_hasR (L := L) (xs := xs) (d := d + 1) (x := q.2.1) (Q := Q) hR h1
  have n1 : ¬ (1 : Int32) = 0 := by decide
  have b0 : bI false = 0 := rfl
  have b1 : bI true = 1 := rfl
  have em : mg1 n I l1 S q = (if hsB S.1.2.1 q.2.1 = true then mgUpd l1 S q (fdS l1 1 q.2.1) else none) := by
    unfold mg1
    rw [if_neg (by rw [h0]; decide), if_pos h0]
  unfold stepR
  rw [em]
  cases hs : hsB S.1.2.1 q.2.1 with
  | false =>
    rw [hs, b0] at hh
    refine ⟨s, frMg_r s, Or.inr ⟨if_neg (by decide), fun Q => ?_⟩⟩
    simp only [e76, r76_0, r76_1, r76_4, r76_5, r76_6, r76_9, r76_10, r76_11, r76_14, r76_15, r76_16, r76_19, r76_20, r76_21, r76_24, r76_25, r76_28, r76_31, r76_32, am_li0, am_liS, am_laR0, am_tL, g53_0, g53_4, s_oc isE89, f_oc isF_54, p1, p5, hh, not_true, if_false, am_okI, am_okR, List.length_cons, List.length_nil, List.set_cons_succ, List.set_cons_zero, Nat.reduceAdd, Nat.reduceLT, Nat.zero_le, Nat.reduceLeDiff, and_true, true_and, true_or, eq_self]
  | true =>
    rw [hs, b1] at hh
    rw [if_pos rfl]
    have sf : ∀ Q : Option Value → am_S → Prop, am_Call L xs (d + 1) 77 [.ref (59 + 13), .int 1, .int q.2.1] (mk s) Q = _ := fun Q => c_sfind isE59 h2 v11
    cases hf : fdS l1 1 q.2.1 with
    | some j =>
      obtain ⟨-, j2, -⟩ := fiF_some hf
      have jl : j < l1.length := by omega
      have j3 : ¬ nI j = -1 := nI_m1 j (by omega)
      have f5 : ∀ Q : Option Value → am_S → Prop, am_Call L xs (d + 1) 58 [.ref (59 + 13), .int (nI j), .int 5] (mk s) Q = Q (some (.int (lg l1 5 j))) (mk s) := fun Q => c_part (j := 5) isE59 h2 v11 jl (by decide)
      rw [hf, oI_some] at sf
      show ∃ s' : St, frMg s s' ∧ ((∃ S', (if lg l1 5 j = q.2.2.2.2.2 then some S else none) = some S' ∧ _) ∨ ((if lg l1 5 j = q.2.2.2.2.2 then some S else none) = none ∧ _))
      by_cases c : lg l1 5 j = q.2.2.2.2.2
      · refine ⟨s, frMg_r s, Or.inl ⟨S, if_pos c, h', fun Q => ?_⟩⟩
        simp only [e76, r76_0, r76_1, r76_4, r76_5, r76_6, r76_9, r76_10, r76_11, r76_14, r76_15, r76_16, r76_19, r76_20, r76_21, r76_24, r76_25, r76_28, r76_33, r76_34, r76_37, r76_38, r76_39, r76_42, r76_44, r76_46, r76_47, r76_50, r76_51, r76_54, r76_56, r76_57, r76_60, r76_61, r76_64, r76_65, r76_69, am_li0, am_liS, am_laR0, am_tL, g53_0, g53_3, g53_4, s_oc isE59, s_oc isE89, f_oc isF_54, p1, p5, hh, sf, f5, j3, c, n1, not_true, not_false_eq_true, if_true, if_false, am_okI, am_okR, List.length_cons, List.length_nil, List.set_cons_succ, List.set_cons_zero, Nat.reduceAdd, Nat.reduceLT, Nat.zero_le, Nat.reduceLeDiff, and_true, true_and, or_true, eq_self]
      · refine ⟨s, frMg_r s, Or.inr ⟨if_neg c, fun Q => ?_⟩⟩
        simp only [e76, r76_0, r76_1, r76_4, r76_5, r76_6, r76_9, r76_10, r76_11, r76_14, r76_15, r76_16, r76_19, r76_20, r76_21, r76_24, r76_25, r76_28, r76_33, r76_34, r76_37, r76_38, r76_39, r76_42, r76_44, r76_46, r76_47, r76_50, r76_51, r76_54, r76_56, r76_57, r76_60, r76_61, r76_68, r76_69, am_li0, am_liS, am_laR0, am_tL, g53_0, g53_3, g53_4, s_oc isE59, s_oc isE89, f_oc isF_54, p1, p5, hh, sf, f5, j3, c, n1, not_true, not_false_eq_true, if_true, if_false, am_okI, am_okR, List.length_cons, List.length_nil, List.set_cons_succ, List.set_cons_zero, Nat.reduceAdd, Nat.reduceLT, Nat.zero_le, Nat.reduceLeDiff, and_true, true_and, true_or, eq_self]
    | none =>
      rw [hf, oI_none] at sf
      rw [x2] at p1 hh sf
      obtain ⟨s', a1, a2, a3⟩ := c_relR (L := L) (xs := xs) (d := d) (v := x) (x := q.2.2.2.2.2) hR h1 (by omega)
      have ed : doS S.1 q = (S.1.1, S.1.2.1, S.1.2.2.1, S.1.2.2.2.1, upd S.1.2.2.2.2 x q.2.2.2.2.2) := by
        obtain ⟨k', nd, p, b, y, lb⟩ := q
        dsimp only at h0 x2
        subst h0; subst x2
        exact doS_1 S.1 x (by omega) p b y lb
      refine ⟨s', frF_Mg a2, Or.inl ⟨(doS S.1 q, S.2), rfl, by rw [ed]; exact cG_F h' a2 a1, fun Q => ?_⟩⟩
      have m1 : ((-1 : Int32) = -1) = True := eq_self _
      simp only [e76, r76_0, r76_1, r76_4, r76_5, r76_6, r76_9, r76_10, r76_11, r76_14, r76_15, r76_16, r76_19, r76_20, r76_21, r76_24, r76_25, r76_28, r76_33, r76_34, r76_37, r76_38, r76_39, r76_42, r76_44, r76_46, r76_47, r76_70, r76_71, r76_74, r76_75, r76_76, r76_79, r76_80, am_li0, am_liS, am_laR0, am_tL, am_tN, g53_0, g53_3, g53_4, s_oc isE59, s_oc isE89, f_oc isF_54, p1, p5, hh, sf, a3, m1, n1, not_true, not_false_eq_true, if_true, if_false, am_okI, am_okR, List.length_cons, List.length_nil, List.set_cons_succ, List.set_cons_zero, Nat.reduceAdd, Nat.reduceLT, Nat.zero_le, Nat.reduceLeDiff, and_true, true_and, or_true, eq_self]
theorem c_mergeMove {n I k : Nat} {l1 l2 r : List Sp} {S : Mg} {q : Sp} (h : cG s n l1 l2 S) (hV : mgV n I l1 S (q :: r)) (hl2 : l2.length ≤ 24) (hk : l2[k]? = some q) (h0 : q.1 = 2) : stepR L xs (d + 2) 78 n I l1 l2 S q k s := by
  have h' := h
  obtain ⟨w1', w2'⟩ := mg_va hV
  obtain ⟨h1, h2, h3, h4, h5, h6, h7⟩ := h
  obtain ⟨⟨v1, v2, v3⟩, hR, v5, v6, v7, v8, v9, v10, v11, v12⟩ := hV
  have hkl : k < l2.length := (List.getElem?_eq_some_iff.mp hk).1
  rw [nuS_c] at v8
  have hx : ∃ x, x < n ∧ q.2.1 = nI x := by
    rcases v8.2.2 with ⟨a, -, -⟩ | ⟨-, a, -⟩ | ⟨a, -, -⟩
    · rw [h0] at a; exact absurd a (by decide)
    · exact a
    · rw [h0] at a; exact absurd a (by decide)
  obtain ⟨x, x1, x2⟩ := hx
  have part : ∀ (j : Nat), j < 6 → ∀ Q : Option Value → am_S → Prop, am_Call L xs (d + 1) 58 [.ref (89 + 13), .int (nI k), .int (nI j)] (mk s) Q = Q (some (.int (spC q j))) (mk s) := fun j hj Q => by
    have := c_part (L := L) (xs := xs) (d := d + 1) (Q := Q) (j := j) isE89 h3 hl2 hkl hj
    rw [lg_at hk] at this; exact this
  have p1 : ∀ Q : Option Value → am_S → Prop, am_Call L xs (d + 1) 58 [.ref (89 + 13), .int (nI k), .int 1] (mk s) Q = Q (some (.int q.2.1)) (mk s) := part 1 (by decide)
  have p2 : ∀ Q : Option Value → am_S → Prop, am_Call L xs (d + 1) 58 [.ref (89 + 13), .int (nI k), .int 2] (mk s) Q = Q (some (.int q.2.2.1)) (mk s) := part 2 (by decide)
  have p3 : ∀ Q : Option Value → am_S → Prop, am_Call L xs (d + 1) 58 [.ref (89 + 13), .int (nI k), .int 3] (mk s) Q = Q (some (.int q.2.2.2.1)) (mk s) := part 3 (by decide)
  have m2 : ∀ Q : Option Value → am_S → Prop, am_Call L xs (d + 1) 71 [.ref 53, .int q.2.2.1] (mk s) Q = _ := fun Q => c_meaning h' v1 (by omega) v8.1
  have m3 : ∀ Q : Option Value → am_S → Prop, am_Call L xs (d + 1) 71 [.ref 53, .int q.2.2.2.1] (mk s) Q = _ := fun Q => c_meaning h' v1 (by omega) v8.2.1
  have em : mg1 n I l1 S q = (if hsB S.1.2.1 q.2.1 = true then mgMov l1 S q (mea n S.2.2.1 q.2.2.1) (mea n S.2.2.1 q.2.2.2.1) (fdS l1 2 q.2.1) else none) := by
    unfold mg1
    rw [if_neg (by rw [h0]; decide), if_neg (by rw [h0]; decide), if_pos h0]
  generalize hP : mea n S.2.2.1 q.2.2.1 = p at m2 em w1'
  generalize hB : mea n S.2.2.1 q.2.2.2.1 = b at m3 em w2'
  have hh := fun Q => c_hasR (L := L) (xs := xs) (d := d + 1) (x := q.2.1) (Q := Q) hR h1
  have n1 : ¬ (1 : Int32) = 0 := by decide
  have b0 : bI false = 0 := rfl
  have b1 : bI true = 1 := rfl
  have S0 : ∀ (hb : Bool), hsB S.1.2.1 q.2.1 = hb → ∀ Q : Option Value → am_S → Prop, am_Call L xs (d + 2) 78 [.ref 53, .int (nI k)] (mk s) Q = am_Rn L xs (d + 2) 78 47 [.ref 53, .int (nI k), .int q.2.1, .int p, .int b, .retAddr 0] [.int (bI hb)] (mk s) Q := fun hb e Q => by
    rw [e] at hh
    simp only [e78, r78_0, r78_1, r78_4, r78_5, r78_6, r78_9, r78_10, r78_11, r78_12, r78_15, r78_16, r78_17, r78_20, r78_23, r78_24, r78_25, r78_26, r78_29, r78_30, r78_31, r78_34, r78_37, r78_39, r78_40, r78_43, r78_44, am_li0, am_liS, am_laR0, am_tL, g53_0, g53_4, s_oc isE89, f_oc isF_54, g_oc, p1, p2, p3, m2, m3, hh, am_okI, am_okR, List.length_cons, List.length_nil, List.set_cons_succ, List.set_cons_zero, Nat.reduceAdd, Nat.reduceLT, Nat.zero_le, Nat.reduceLeDiff, and_true, true_and]
  unfold stepR
  rw [em]
  cases hs : hsB S.1.2.1 q.2.1 with
  | false =>
    refine ⟨s, frMg_r s, Or.inr ⟨if_neg (by decide), fun Q => ?_⟩⟩
    rw [S0 false hs Q, b0]
    simp only [r78_47, r78_50, r78_51, not_true, if_false, true_or, eq_self]
  | true =>
    rw [if_pos rfl]
    have sf : ∀ Q : Option Value → am_S → Prop, am_Call L xs (d + 1) 77 [.ref (59 + 13), .int 2, .int q.2.1] (mk s) Q = _ := fun Q => c_sfind isE59 h2 v11
    cases hf : fdS l1 2 q.2.1 with
    | some j =>
      obtain ⟨-, j2, -⟩ := fiF_some hf
      have jl : j < l1.length := by omega
      have j3 : ¬ nI j = -1 := nI_m1 j (by omega)
      have pa : ∀ Q : Option Value → am_S → Prop, am_Call L xs (d + 1) 73 [.ref 53, .int (nI j), .int p, .int b] (mk s) Q = _ := fun Q => c_isPutAt (d := d) h2 v11 jl
      rw [hf, oI_some] at sf
      show ∃ s' : St, frMg s s' ∧ ((∃ S', (if lg l1 2 j = p ∧ lg l1 3 j = b then some S else none) = some S' ∧ _) ∨ ((if lg l1 2 j = p ∧ lg l1 3 j = b then some S else none) = none ∧ _))
      by_cases c : lg l1 2 j = p ∧ lg l1 3 j = b
      · rw [decide_eq_true c.1, decide_eq_true c.2, Bool.and_self, b1] at pa
        refine ⟨s, frMg_r s, Or.inl ⟨S, if_pos c, h', fun Q => ?_⟩⟩
        rw [S0 true hs Q, b1]
        simp only [r78_47, r78_52, r78_53, r78_56, r78_57, r78_58, r78_61, r78_63, r78_65, r78_66, r78_69, r78_70, r78_72, r78_73, r78_75, r78_78, am_li0, am_liS, am_laR0, am_tL, g53_3, s_oc isE59, g_oc, sf, pa, j3, n1, not_false_eq_true, if_true, if_false, am_okI, am_okR, List.length_cons, List.length_nil, List.set_cons_succ, List.set_cons_zero, Nat.reduceAdd, Nat.reduceLT, Nat.zero_le, Nat.reduceLeDiff, and_true, true_and, or_true, eq_self]
      · have e : (decide (lg l1 2 j = p) && decide (lg l1 3 j = b)) = false := by
          rw [Bool.and_eq_false_iff, decide_eq_false_iff_not, decide_eq_false_iff_not]
          by_cases c1 : lg l1 2 j = p
          · exact Or.inr fun c2 => c ⟨c1, c2⟩
          · exact Or.inl c1
        rw [e, b0] at pa
        refine ⟨s, frMg_r s, Or.inr ⟨if_neg c, fun Q => ?_⟩⟩
        rw [S0 true hs Q, b1]
        simp only [r78_47, r78_52, r78_53, r78_56, r78_57, r78_58, r78_61, r78_63, r78_65, r78_66, r78_69, r78_70, r78_72, r78_73, r78_75, r78_78, am_li0, am_liS, am_laR0, am_tL, g53_3, s_oc isE59, g_oc, sf, pa, j3, n1, not_false_eq_true, if_true, if_false, am_okI, am_okR, List.length_cons, List.length_nil, List.set_cons_succ, List.set_cons_zero, Nat.reduceAdd, Nat.reduceLT, Nat.zero_le, Nat.reduceLeDiff, and_true, true_and, true_or, eq_self]
    | none =>
      rw [hf, oI_none] at sf
      have cp : ∀ Q : Option Value → am_S → Prop, am_Call L xs (d + 1) 75 [.ref 53, .int p, .int b] (mk s) Q = _ := fun Q => c_canPut (d := d) hR h1
      have ab : ∀ Q : Option Value → am_S → Prop, am_Call L xs (d + 1) 79 [.ref 54, .int p, .int (nI x)] (mk s) Q = _ := fun Q => c_isAtOrBelow (d := d) hR h1 (by omega)
      have xc : q.2.1.toNatClampNeg = x := by rw [x2]; exact nI_clamp (by omega)
      have m1 : ((-1 : Int32) = -1) = True := eq_self _
      show ∃ s' : St, frMg s s' ∧ ((∃ S', (if canB S.1 p b = true ∧ wiF S.1 q.2.1.toNatClampNeg 37 p = false then some (doS S.1 (2, q.2.1, p, b, q.2.2.2.2.1, q.2.2.2.2.2), S.2) else none) = some S' ∧ _) ∨ ((if canB S.1 p b = true ∧ wiF S.1 q.2.1.toNatClampNeg 37 p = false then some (doS S.1 (2, q.2.1, p, b, q.2.2.2.2.1, q.2.2.2.2.2), S.2) else none) = none ∧ _))
      rw [xc]
      rw [x2] at sf
      have S1 := fun Q => S0 true hs Q
      rw [x2, b1] at S1
      cases hc : canB S.1 p b with
      | false =>
        rw [hc, b0] at cp
        refine ⟨s, frMg_r s, Or.inr ⟨if_neg (fun e => by cases e.1), fun Q => ?_⟩⟩
        rw [S1 Q]
        simp only [r78_47, r78_52, r78_53, r78_56, r78_57, r78_58, r78_61, r78_63, r78_65, r78_66, r78_79, r78_80, r78_81, r78_83, r78_86, r78_101, r78_102, am_li0, am_liS, am_laR0, am_tL, g53_3, s_oc isE59, g_oc, sf, cp, m1, n1, not_false_eq_true, if_true, if_false, am_okI, am_okR, List.length_cons, List.length_nil, List.set_cons_succ, List.set_cons_zero, Nat.reduceAdd, Nat.reduceLT, Nat.zero_le, Nat.reduceLeDiff, and_true, true_and, true_or, eq_self]
      | true =>
        rw [hc, b1] at cp
        cases hwi : wiF S.1 x 37 p with
        | true =>
          rw [hwi, b1] at ab
          refine ⟨s, frMg_r s, Or.inr ⟨if_neg (fun e => by cases e.2), fun Q => ?_⟩⟩
          rw [S1 Q]
          simp only [r78_47, r78_52, r78_53, r78_56, r78_57, r78_58, r78_61, r78_63, r78_65, r78_66, r78_79, r78_80, r78_81, r78_83, r78_86, r78_89, r78_90, r78_93, r78_94, r78_95, r78_98, r78_101, r78_102, am_li0, am_liS, am_laR0, am_tL, g53_0, g53_3, s_oc isE59, f_oc isF_54, g_oc, sf, cp, ab, m1, n1, not_false_eq_true, if_true, if_false, am_okI, am_okR, List.length_cons, List.length_nil, List.set_cons_succ, List.set_cons_zero, Nat.reduceAdd, Nat.reduceLT, Nat.zero_le, Nat.reduceLeDiff, and_true, true_and, true_or, eq_self]
        | false =>
          rw [hwi, b0] at ab
          have hxm : x ∈ S.1.2.1 := by
            obtain ⟨m, m1, m2⟩ := hsB_iff.mp hs
            rw [x2] at m2
            rw [(nI_eq (by omega) (rOk_lt hR m m1)).mp m2]; exact m1
          obtain ⟨o1, -⟩ := can_ok (v := x) hR w1' w2' hc
          obtain ⟨s1, s', a1, a2, a3, a4, a5⟩ := c_movR (L := L) (xs := xs) (d := d) hR h1 hxm o1
          refine ⟨s', frF_Mg a3, Or.inl ⟨_, if_pos ⟨rfl, rfl⟩, ?_, fun Q => ?_⟩⟩
          · rw [x2, doS_2 _ _ (by omega)]
            exact cG_F h' a3 a1
          · rw [S1 Q]
            simp only [r78_47, r78_52, r78_53, r78_56, r78_57, r78_58, r78_61, r78_63, r78_65, r78_66, r78_79, r78_80, r78_81, r78_83, r78_86, r78_89, r78_90, r78_93, r78_94, r78_95, r78_98, r78_103, r78_104, r78_107, r78_108, r78_111, r78_112, r78_115, r78_116, r78_117, r78_119, r78_122, r78_123, am_li0, am_liS, am_laR0, am_tL, am_tN, g53_0, g53_3, s_oc isE59, f_oc isF_54, g_oc, sf, cp, ab, a4, a5, m1, n1, not_false_eq_true, if_true, if_false, am_okI, am_okR, List.length_cons, List.length_nil, List.set_cons_succ, List.set_cons_zero, Nat.reduceAdd, Nat.reduceLT, Nat.zero_le, Nat.reduceLeDiff, and_true, true_and, or_true, eq_self]
end
