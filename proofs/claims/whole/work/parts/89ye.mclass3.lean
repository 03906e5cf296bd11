/-! merge: INSERT and DELETE in the class; the class's merge, whole -/
section
variable {L : Nat} {xs : Nat → Int32} {d : Nat} {s : St}
theorem c_countOfC {D : Nat} {l : List Sp} {a : Int32} {Q : Option Value → am_S → Prop} (hE : isE D) (hs : sc s D l) (hl : l.length ≤ 24) : am_Call L xs d 60 [.ref (D + 13), .int a] (mk s) Q = Q (some (.int (nI (knC a l)))) (mk s) := by
  have r := c_countOf (L := L) (xs := xs) (d := d) (a := a) (Q := Q) hE hs hl l.length 0 rfl (Nat.zero_le _)
  have r : am_Rn L xs d 60 4 [.ref (D + 13), .int a, .int 0, .int 0] [] (mk s) Q = _ := r
  rw [← r]
  simp only [e60, r60_0, r60_1, r60_2, r60_3, List.length_cons, List.length_nil, List.set_cons_succ, List.set_cons_zero, Nat.reduceAdd, Nat.reduceLT, true_and]
theorem c_mergeDelete {n I k : Nat} {l1 l2 r : List Sp} {S : Mg} {q : Sp} (h : cG s n l1 l2 S) (hV : mgV n I l1 S (q :: r)) (hl2 : l2.length ≤ 24) (hk : l2[k]? = some q) (h0 : q.1 = 3) : stepR L xs (d + 2) 80 n I l1 l2 S q k s := by
  have h' := h
  obtain ⟨h1, h2, h3, h4, h5, h6, h7⟩ := h
  obtain ⟨⟨v1, v2, v3⟩, hR, v5, v6, v7, v8, v9, v10, v11, v12⟩ := hV
  have h36 := hR.1
  have hkl : k < l2.length := (List.getElem?_eq_some_iff.mp hk).1
  rw [nuS_c] at v8
  have hx : ∃ x, x < n ∧ q.2.1 = nI x := by
    rcases v8.2.2 with ⟨a, -, -⟩ | ⟨a, -, -⟩ | ⟨-, ⟨x, x1, x2, -⟩, -⟩
    · rw [h0] at a; exact absurd a (by decide)
    · rcases a with a | a <;> rw [h0] at a <;> exact absurd a (by decide)
    · exact ⟨x, x1, x2⟩
  obtain ⟨x, x1, x2⟩ := hx
  have p1 : ∀ Q : Option Value → am_S → Prop, am_Call L xs (d + 1) 58 [.ref (89 + 13), .int (nI k), .int 1] (mk s) Q = Q (some (.int q.2.1)) (mk s) := fun Q => by
    have := c_part (L := L) (xs := xs) (d := d + 1) (Q := Q) (j := 1) isE89 h3 hl2 hkl (by decide)
    rw [lg_at hk] at this; exact this
  have n1 : ¬ (1 : Int32) = 0 := by decide
  have m1 : ((-1 : Int32) = -1) = True := eq_self _
  have em : mg1 n I l1 S q = mgDel l1 S q (fdS l1 3 q.2.1) := by
    unfold mg1
    rw [if_neg (by rw [h0]; decide), if_neg (by rw [h0]; decide), if_neg (by rw [h0]; decide)]
  have sf : ∀ (kd : Int32) (Q : Option Value → am_S → Prop), am_Call L xs (d + 1) 77 [.ref (59 + 13), .int kd, .int q.2.1] (mk s) Q = Q (some (.int (oI (fdS l1 kd q.2.1)))) (mk s) := fun kd Q => c_sfind isE59 h2 v11
  have nf : ∀ {kd : Int32} {j : Nat}, fdS l1 kd q.2.1 = some j → ¬ nI j = -1 := fun {kd j} hf => nI_m1 j (by obtain ⟨-, j2, -⟩ := fiF_some hf; omega)
  have sf3 := sf 3
  unfold stepR
  rw [em]
  cases hf : fdS l1 3 q.2.1 with
  | some j =>
    rw [hf, oI_some] at sf3
    have j3 := nf hf
    refine ⟨s, frMg_r s, Or.inl ⟨S, rfl, h', fun Q => ?_⟩⟩
    simp only [e80, r80_0, r80_1, r80_4, r80_5, r80_6, r80_9, r80_10, r80_11, r80_14, r80_15, r80_16, r80_19, r80_20, r80_23, r80_24, am_li0, am_liS, am_laR0, am_tL, g53_3, g53_4, s_oc isE59, s_oc isE89, p1, sf3, j3, if_false, am_okI, am_okR, List.length_cons, List.length_nil, List.set_cons_succ, List.set_cons_zero, Nat.reduceAdd, Nat.reduceLT, Nat.zero_le, Nat.reduceLeDiff, and_true, true_and, or_true, eq_self]
  | none =>
    rw [hf, oI_none] at sf3
    have hxm : x ∈ S.1.2.1 := by
      rcases v12 q List.mem_cons_self h0 with w | w
      · rw [hf] at w; cases w
      · obtain ⟨m, m1, m2⟩ := hsB_iff.mp w
        rw [x2] at m2
        rw [(nI_eq (by omega) (rOk_lt hR m m1)).mp m2]; exact m1
    have cc : ∀ Q : Option Value → am_S → Prop, am_Call L xs (d + 1) 10 [.ref 54, .int q.2.1] (mk s) Q = Q (some (.int (nI (ctL S.1.2.2.1 q.2.1 S.1.2.1)))) (mk s) := fun Q => by
      rw [c_childCount isF_54 (by decide) h1.1 h36]
      show Q (some (.int (nI (cnt (s.1 55) q.2.1 S.1.1)))) (mk s) = _
      rw [cR_cnt hR h1 (by rw [x2]; exact nI_m2 x (by omega))]
    have hcl := Nat.le_trans (ctL_le S.1.2.2.1 q.2.1 S.1.2.1) (rOk_len hR)
    show ∃ s' : St, frMg s s' ∧ ((∃ S', (if (fdS l1 1 q.2.1).isSome = true ∨ (fdS l1 2 q.2.1).isSome = true ∨ 0 < ctL S.1.2.2.1 q.2.1 S.1.2.1 then none else some (doS S.1 q, S.2)) = some S' ∧ _) ∨ ((if (fdS l1 1 q.2.1).isSome = true ∨ (fdS l1 2 q.2.1).isSome = true ∨ 0 < ctL S.1.2.2.1 q.2.1 S.1.2.1 then none else some (doS S.1 q, S.2)) = none ∧ _))
    have sf1 := sf 1
    have sf2 := sf 2
    cases hf1 : fdS l1 1 q.2.1 with
    | some j =>
      rw [hf1, oI_some] at sf1
      have j3 := nf hf1
      refine ⟨s, frMg_r s, Or.inr ⟨if_pos (Or.inl rfl), fun Q => ?_⟩⟩
      simp only [e80, r80_0, r80_1, r80_4, r80_5, r80_6, r80_9, r80_10, r80_11, r80_14, r80_15, r80_16, r80_19, r80_20, r80_25, r80_26, r80_29, r80_30, r80_31, r80_34, r80_35, r80_51, r80_52, r80_56, r80_57, r80_58, r80_72, r80_73, am_li0, am_liS, am_laR0, am_tL, g53_3, g53_4, s_oc isE59, s_oc isE89, p1, sf3, sf1, j3, m1, n1, not_false_eq_true, if_true, if_false, am_okI, am_okR, List.length_cons, List.length_nil, List.set_cons_succ, List.set_cons_zero, Nat.reduceAdd, Nat.reduceLT, Nat.zero_le, Nat.reduceLeDiff, and_true, true_and, true_or, eq_self]
    | none =>
      rw [hf1, oI_none] at sf1
      cases hf2 : fdS l1 2 q.2.1 with
      | some j =>
        rw [hf2, oI_some] at sf2
        have j3 := nf hf2
        refine ⟨s, frMg_r s, Or.inr ⟨if_pos (Or.inr (Or.inl rfl)), fun Q => ?_⟩⟩
        simp only [e80, r80_0, r80_1, r80_4, r80_5, r80_6, r80_9, r80_10, r80_11, r80_14, r80_15, r80_16, r80_19, r80_20, r80_25, r80_26, r80_29, r80_30, r80_31, r80_34, r80_35, r80_38, r80_39, r80_42, r80_43, r80_44, r80_47, r80_48, r80_51, r80_52, r80_56, r80_57, r80_58, r80_72, r80_73, am_li0, am_liS, am_laR0, am_tL, g53_3, g53_4, s_oc isE59, s_oc isE89, p1, sf3, sf1, sf2, j3, m1, n1, not_true, not_false_eq_true, if_true, if_false, am_okI, am_okR, List.length_cons, List.length_nil, List.set_cons_succ, List.set_cons_zero, Nat.reduceAdd, Nat.reduceLT, Nat.zero_le, Nat.reduceLeDiff, and_true, true_and, true_or, eq_self]
      | none =>
        rw [hf2, oI_none] at sf2
        by_cases c : 0 < ctL S.1.2.2.1 q.2.1 S.1.2.1
        · have c1 : ¬ nI (ctL S.1.2.2.1 q.2.1 S.1.2.1) ≤ 0 := nI_nle c (by omega)
          refine ⟨s, frMg_r s, Or.inr ⟨if_pos (Or.inr (Or.inr c)), fun Q => ?_⟩⟩
          simp only [e80, r80_0, r80_1, r80_4, r80_5, r80_6, r80_9, r80_10, r80_11, r80_14, r80_15, r80_16, r80_19, r80_20, r80_25, r80_26, r80_29, r80_30, r80_31, r80_34, r80_35, r80_38, r80_39, r80_42, r80_43, r80_44, r80_47, r80_48, r80_55, r80_56, r80_57, r80_58, r80_61, r80_62, r80_65, r80_66, r80_69, r80_72, r80_73, am_li0, am_liS, am_laR0, am_tL, g53_0, g53_3, g53_4, s_oc isE59, s_oc isE89, f_oc isF_54, p1, sf3, sf1, sf2, cc, c1, m1, n1, not_true, if_true, if_false, am_okI, am_okR, List.length_cons, List.length_nil, List.set_cons_succ, List.set_cons_zero, Nat.reduceAdd, Nat.reduceLT, Nat.zero_le, Nat.reduceLeDiff, and_true, true_and, true_or, eq_self]
        · have c0 : ctL S.1.2.2.1 q.2.1 S.1.2.1 = 0 := by omega
          rw [c0] at cc
          have c1 : nI 0 ≤ 0 := by decide
          obtain ⟨s', a1, a2, a3, a4⟩ := c_takeOut (L := L) (xs := xs) (d := d) hR h1 hxm
          have ed : doS S.1 q = (S.1.1, rmv x S.1.2.1, S.1.2.2) := by
            obtain ⟨k', nd, p, b, y, lb⟩ := q
            dsimp only at h0 x2
            subst h0; subst x2
            exact doS_3 S.1 x (by omega) p b y lb
          refine ⟨s', frF_Mg a3, Or.inl ⟨(doS S.1 q, S.2), if_neg (fun w => ?_), by rw [ed]; exact cG_F h' a3 a1, fun Q => ?_⟩⟩
          · rcases w with w | w | w
            · cases w
            · cases w
            · exact c w
          · rw [x2] at p1 sf1 sf2 sf3 cc
            simp only [e80, r80_0, r80_1, r80_4, r80_5, r80_6, r80_9, r80_10, r80_11, r80_14, r80_15, r80_16, r80_19, r80_20, r80_25, r80_26, r80_29, r80_30, r80_31, r80_34, r80_35, r80_38, r80_39, r80_42, r80_43, r80_44, r80_47, r80_48, r80_55, r80_56, r80_57, r80_58, r80_61, r80_62, r80_65, r80_66, r80_69, r80_74, r80_75, r80_78, r80_79, r80_82, r80_83, am_li0, am_liS, am_laR0, am_tL, am_tN, g53_0, g53_3, g53_4, s_oc isE59, s_oc isE89, f_oc isF_54, p1, sf3, sf1, sf2, cc, c1, a4, m1, not_true, if_true, if_false, am_okI, am_okR, List.length_cons, List.length_nil, List.set_cons_succ, List.set_cons_zero, Nat.reduceAdd, Nat.reduceLT, Nat.zero_le, Nat.reduceLeDiff, and_true, true_and, or_true, eq_self]
theorem c_mergeInsert {n I k : Nat} {l1 l2 r : List Sp} {S : Mg} {q : Sp} (h : cG s n l1 l2 S) (hV : mgV n I l1 S (q :: r)) (hl2 : l2.length ≤ 24) (hk : l2[k]? = some q) (h0 : q.1 = 0) : stepR L xs (d + 3) 70 n I l1 l2 S q k s := by
  have h' := h
  obtain ⟨w1', w2'⟩ := mg_va hV
  obtain ⟨h1, h2, h3, h4, h5, h6, h7⟩ := h
  obtain ⟨⟨v1, v2, v3⟩, hR, v5, v6, v7, v8, v9, v10, v11, v12⟩ := hV
  have hkl : k < l2.length := (List.getElem?_eq_some_iff.mp hk).1
  rw [nuS_c] at v8
  rw [knC_c, if_pos h0] at v3
  have part : ∀ (s : St) (_ : sc s 89 l2) (j : Nat), j < 6 → ∀ Q : Option Value → am_S → Prop, am_Call L xs (d + 2) 58 [.ref (89 + 13), .int (nI k), .int (nI j)] (mk s) Q = Q (some (.int (spC q j))) (mk s) := fun s h3 j hj Q => by
    have := c_part (L := L) (xs := xs) (d := d + 2) (Q := Q) (j := j) isE89 h3 hl2 hkl hj
    rw [lg_at hk] at this; exact this
  have p2 : ∀ Q : Option Value → am_S → Prop, am_Call L xs (d + 2) 58 [.ref (89 + 13), .int (nI k), .int 2] (mk s) Q = Q (some (.int q.2.2.1)) (mk s) := part s h3 2 (by decide)
  have p3 : ∀ Q : Option Value → am_S → Prop, am_Call L xs (d + 2) 58 [.ref (89 + 13), .int (nI k), .int 3] (mk s) Q = Q (some (.int q.2.2.2.1)) (mk s) := part s h3 3 (by decide)
  have m2 : ∀ Q : Option Value → am_S → Prop, am_Call L xs (d + 2) 71 [.ref 53, .int q.2.2.1] (mk s) Q = _ := fun Q => c_meaning h' v1 (by omega) v8.1
  have m3 : ∀ Q : Option Value → am_S → Prop, am_Call L xs (d + 2) 71 [.ref 53, .int q.2.2.2.1] (mk s) Q = _ := fun Q => c_meaning h' v1 (by omega) v8.2.1
  have em : mg1 n I l1 S q = mgIns n I l1 S q (mea n S.2.2.1 q.2.2.1) (mea n S.2.2.1 q.2.2.2.1) (fdT l1 S.2.2.2 (mea n S.2.2.1 q.2.2.1) (mea n S.2.2.1 q.2.2.2.1) q.2.2.2.2.1 q.2.2.2.2.2) := by
    unfold mg1
    rw [if_pos h0]
  generalize hP : mea n S.2.2.1 q.2.2.1 = p at m2 em w1'
  generalize hB : mea n S.2.2.1 q.2.2.2.1 = b at m3 em w2'
  have n1 : ¬ (1 : Int32) = 0 := by decide
  have m1 : ((-1 : Int32) = -1) = True := eq_self _
  have b0 : bI false = 0 := rfl
  have b1 : bI true = 1 := rfl
  have ft : ∀ Q : Option Value → am_S → Prop, am_Call L xs (d + 2) 72 [.ref 53, .int (nI k), .int p, .int b] (mk s) Q = Q (some (.int (oI (fdT l1 S.2.2.2 p b q.2.2.2.2.1 q.2.2.2.2.2)))) (mk s) := fun Q => by
    have := c_findTwin (L := L) (xs := xs) (d := d) (p := p) (b := b) (Q := Q) h' v11 hl2 hkl
    rw [lg_at hk, lg_at hk] at this
    exact this
  unfold stepR
  rw [em]
  cases hf : fdT l1 S.2.2.2 p b q.2.2.2.2.1 q.2.2.2.2.2 with
  | some j =>
    obtain ⟨-, j2, j4⟩ := fiF_some hf
    have jl : j < l1.length := by omega
    have j3 : ¬ nI j = -1 := nI_m1 j (by omega)
    rw [hf, oI_some] at ft
    have hg : l1[j]? = some l1[j] := List.getElem?_eq_getElem jl
    unfold tP at j4
    rw [Bool.and_eq_true, Bool.and_eq_true, decide_eq_true_iff, lg_at hg] at j4
    obtain ⟨i', i1, i2, -⟩ := nu_ins v9 hg j4.1.1
    rw [Nat.add_zero] at i1
    have e1 : lg l1 1 j = nI (n + i') := by rw [lg_at hg]; exact i1
    have k1 : am_in (nI j) 24 = true := in_of (by omega) (by decide)
    have k2 : (nI j).toNatClampNeg = j := nI_clamp (by omega)
    generalize hs1 : w1 s 119 j 1 = s1
    have a1 : s1.1 119 = upd (s.1 119) j 1 := by rw [← hs1, w1_q]
    have a2 : ∀ q, q ≠ 119 → s1.1 q = s.1 q := fun q hq => by rw [← hs1, w1_o _ _ _ hq]
    have a3 : s1.2 = s.2 := by rw [← hs1]; rfl
    have hG1 : cG s1 n l1 l2 (S.1, S.2.1, S.2.2.1, bU S.2.2.2 j) := ⟨cR_congr (fun q _ _ => a2 q (by omega)) (by rw [a3]) h1, ⟨by rw [a3]; exact h2.1, fun k p hk j hj => by rw [a2 _ (by omega)]; exact h2.2 k p hk j hj⟩, ⟨by rw [a3]; exact h3.1, fun k p hk j hj => by rw [a2 _ (by omega)]; exact h3.2 k p hk j hj⟩, by rw [a3]; exact h4, by rw [a3]; exact h5, fun j hj => by rw [a2 120 (by omega)]; exact h6 j hj, fun k hk => by
      rw [a1]
      show upd (s.1 119) j 1 k = bI (bU S.2.2.2 j k)
      by_cases e : k = j
      · rw [e, upd_s, bU_s]; rfl
      · rw [upd_n _ _ e, bU_n _ e]; exact h7 k hk⟩
    obtain ⟨s2, c1, c2, c3, c4⟩ := c_remember (L := L) (xs := xs) (d := d + 2) (v := n + i') hG1 (show S.2.1 < 12 by omega)
    have f1 : ∀ Q : Option Value → am_S → Prop, am_Call L xs (d + 2) 58 [.ref (59 + 13), .int (nI j), .int 1] (mk s1) Q = Q (some (.int (nI (n + i')))) (mk s1) := fun Q => by
      have := c_part (L := L) (xs := xs) (d := d + 2) (Q := Q) (j := 1) isE59 hG1.2.1 v11 jl (by decide)
      rw [e1] at this; exact this
    have nb1 : vp_nar .boolean 1 = 1 := rfl
    refine ⟨s2, frMg_t ⟨fun q _ q2 _ => a2 q q2, fun q k _ _ => by rw [a3], by rw [a3]⟩ c2, Or.inl ⟨_, rfl, ?_, fun Q => ?_⟩⟩
    · rw [e1, nI_clamp (by omega)]; exact c1
    · simp only [e70, r70_0, r70_1, r70_2, r70_5, r70_6, r70_7, r70_10, r70_13, r70_14, r70_15, r70_16, r70_19, r70_20, r70_21, r70_24, r70_27, r70_28, r70_29, r70_30, r70_31, r70_32, r70_35, r70_37, r70_39, r70_40, r70_43, r70_44, r70_47, r70_49, r70_50, r70_51, r70_52, r70_53, r70_56, r70_58, r70_59, r70_62, r70_65, r70_66, am_li0, am_liS, am_laR0, am_tL, am_tN, g53_3, g53_4, g53_5, w119, s_oc isE59, s_oc isE89, g_oc, p2, p3, m2, m3, ft, j3, k1, k2, nb1, hs1, f1, c4, n1, if_false, am_okI, am_okR, List.length_cons, List.length_nil, List.set_cons_succ, List.set_cons_zero, Nat.reduceAdd, Nat.reduceLT, Nat.zero_le, Nat.reduceLeDiff, and_true, true_and, or_true, eq_self]
  | none =>
    rw [hf, oI_none] at ft
    have co : ∀ Q : Option Value → am_S → Prop, am_Call L xs (d + 2) 60 [.ref (59 + 13), .int 0] (mk s) Q = Q (some (.int (nI I))) (mk s) := fun Q => by
      rw [c_countOfC isE59 h2 v11, v10]
    have e9 : nI n + nI I + nI S.2.1 = nI (n + I + S.2.1) := by rw [nI_add, nI_add]
    obtain ⟨s1, c1, c2, c3, c4⟩ := c_remember (L := L) (xs := xs) (d := d + 2) (v := n + I + S.2.1) h' (show S.2.1 < 12 by omega)
    have cp : ∀ Q : Option Value → am_S → Prop, am_Call L xs (d + 2) 75 [.ref 53, .int p, .int b] (mk s1) Q = _ := fun Q => c_canPut (d := d + 1) hR c1.1
    have S0 : ∀ Q : Option Value → am_S → Prop, am_Call L xs (d + 3) 70 [.ref 53, .int (nI k)] (mk s) Q = am_Rn L xs (d + 3) 70 99 [.ref 53, .int (nI k), .int p, .int b, .int (-1), .int (nI (n + I + S.2.1))] [.int (bI (canB S.1 p b))] (mk s1) Q := fun Q => by
      simp only [e70, r70_0, r70_1, r70_2, r70_5, r70_6, r70_7, r70_10, r70_13, r70_14, r70_15, r70_16, r70_19, r70_20, r70_21, r70_24, r70_27, r70_28, r70_29, r70_30, r70_31, r70_32, r70_35, r70_37, r70_39, r70_40, r70_67, r70_68, r70_71, r70_72, r70_75, r70_76, r70_79, r70_80, r70_81, r70_84, r70_85, r70_87, r70_88, r70_90, r70_93, r70_94, r70_95, r70_96, am_li0, am_liS, am_laR0, am_tL, am_tN, g53_3, g53_4, g53_7, g53_8, s_oc isE59, s_oc isE89, g_oc, p2, p3, m2, m3, ft, co, h4, h5, e9, c4, cp, m1, if_true, am_okI, am_okR, List.length_cons, List.length_nil, List.set_cons_succ, List.set_cons_zero, Nat.reduceAdd, Nat.reduceLT, Nat.zero_le, Nat.reduceLeDiff, and_true, true_and]
    show ∃ s' : St, frMg s s' ∧ ((∃ S', (if canB S.1 p b = true then some (doS S.1 (0, nI (n + I + S.2.1), p, b, q.2.2.2.2.1, q.2.2.2.2.2), S.2.1 + 1, uN S.2.2.1 S.2.1 (n + I + S.2.1), S.2.2.2) else none) = some S' ∧ _) ∨ ((if canB S.1 p b = true then some (doS S.1 (0, nI (n + I + S.2.1), p, b, q.2.2.2.2.1, q.2.2.2.2.2), S.2.1 + 1, uN S.2.2.1 S.2.1 (n + I + S.2.1), S.2.2.2) else none) = none ∧ _))
    cases hc : canB S.1 p b with
    | false =>
      refine ⟨s1, c2, Or.inr ⟨if_neg (by decide), fun Q => ?_⟩⟩
      rw [S0 Q, hc, b0]
      simp only [r70_99, r70_102, r70_103, not_true, if_false, true_or, eq_self]
    | true =>
      have hv : n + I + S.2.1 ∉ S.1.2.1 := fun q => by have := v6 _ q; omega
      obtain ⟨o1, -⟩ := can_ok (v := n + I + S.2.1) hR w1' w2' hc
      obtain ⟨s2, s3, a1, a2, a3, a4, a5⟩ := c_insR (L := L) (xs := xs) (d := d + 1) (y := q.2.2.2.2.1) (x := q.2.2.2.2.2) hR c1.1 hv (by omega) o1
      have p4 : ∀ Q : Option Value → am_S → Prop, am_Call L xs (d + 2) 58 [.ref (89 + 13), .int (nI k), .int 4] (mk s1) Q = Q (some (.int q.2.2.2.2.1)) (mk s1) := part s1 c1.2.2.1 4 (by decide)
      have p5 : ∀ Q : Option Value → am_S → Prop, am_Call L xs (d + 2) 58 [.ref (89 + 13), .int (nI k), .int 5] (mk s1) Q = Q (some (.int q.2.2.2.2.2)) (mk s1) := part s1 c1.2.2.1 5 (by decide)
      refine ⟨s3, frMg_t c2 (frF_Mg a3), Or.inl ⟨_, if_pos rfl, ?_, fun Q => ?_⟩⟩
      · rw [doS_0 _ _ (by omega)]
        exact cG_F c1 a3 a1
      · rw [S0 Q, hc, b1]
        simp only [r70_99, r70_104, r70_105, r70_108, r70_110, r70_111, r70_114, r70_115, r70_116, r70_119, r70_120, r70_123, r70_124, r70_125, r70_128, r70_131, r70_132, r70_135, r70_137, r70_138, r70_139, r70_142, r70_143, am_li0, am_liS, am_laR0, am_tL, am_tN, g53_0, g53_4, s_oc isE89, f_oc isF_54, p4, p5, a4, a5, n1, not_false_eq_true, if_true, am_okI, am_okR, List.length_cons, List.length_nil, List.set_cons_succ, List.set_cons_zero, Nat.reduceAdd, Nat.reduceLT, Nat.zero_le, Nat.reduceLeDiff, and_true, true_and, or_true, eq_self]
theorem ts69_0 {ls st : List Value} {σ : am_S} {Q : Option Value → am_S → Prop} : am_Rn L xs d 69 9 ls (.int 0 :: st) σ Q = am_Rn L xs d 69 36 ls st σ Q := am_r_tsIn (t := 36) d69_9 (by decide +kernel) (off := 27) (by decide +kernel) (by decide)
theorem ts69_1 {ls st : List Value} {σ : am_S} {Q : Option Value → am_S → Prop} : am_Rn L xs d 69 9 ls (.int 1 :: st) σ Q = am_Rn L xs d 69 42 ls st σ Q := am_r_tsIn (t := 42) d69_9 (by decide +kernel) (off := 33) (by decide +kernel) (by decide)
theorem ts69_2 {ls st : List Value} {σ : am_S} {Q : Option Value → am_S → Prop} : am_Rn L xs d 69 9 ls (.int 2 :: st) σ Q = am_Rn L xs d 69 48 ls st σ Q := am_r_tsIn (t := 48) d69_9 (by decide +kernel) (off := 39) (by decide +kernel) (by decide)
theorem ts69_3 {ls st : List Value} {σ : am_S} {Q : Option Value → am_S → Prop} : am_Rn L xs d 69 9 ls (.int 3 :: st) σ Q = am_Rn L xs d 69 54 ls st σ Q := am_r_tsOut (t := 54) d69_9 (by decide +kernel) (by decide)
theorem c_mergeStep {n I k : Nat} {l1 l2 r : List Sp} {S : Mg} {q : Sp} (h : cG s n l1 l2 S) (hV : mgV n I l1 S (q :: r)) (hl2 : l2.length ≤ 24) (hk : l2[k]? = some q) : stepR L xs (d + 4) 69 n I l1 l2 S q k s := by
  have hkl : k < l2.length := (List.getElem?_eq_some_iff.mp hk).1
  have h3 := h.2.2.1
  have p0 : ∀ Q : Option Value → am_S → Prop, am_Call L xs (d + 3) 58 [.ref (89 + 13), .int (nI k), .int 0] (mk s) Q = Q (some (.int q.1)) (mk s) := fun Q => by
    have := c_part (L := L) (xs := xs) (d := d + 3) (Q := Q) (j := 0) isE89 h3 hl2 hkl (by decide)
    rw [lg_at hk] at this; exact this
  have S0 : ∀ Q : Option Value → am_S → Prop, am_Call L xs (d + 4) 69 [.ref 53, .int (nI k)] (mk s) Q = am_Rn L xs (d + 4) 69 9 [.ref 53, .int (nI k)] [.int q.1] (mk s) Q := fun Q => by
    simp only [e69, r69_0, r69_1, r69_4, r69_5, r69_6, am_li0, am_liS, am_laR0, am_tL, g53_4, s_oc isE89, p0, am_okI, am_okR, List.length_cons, List.length_nil, Nat.reduceAdd, Nat.zero_le, Nat.reduceLeDiff, and_true, true_and]
  have v8 := hV.2.2.2.2.2.1
  rw [nuS_c] at v8
  have hq : q.1 = 0 ∨ q.1 = 1 ∨ q.1 = 2 ∨ q.1 = 3 := by
    rcases v8.2.2 with ⟨a, -, -⟩ | ⟨a, -, -⟩ | ⟨a, -, -⟩
    · exact Or.inl a
    · rcases a with a | a
      · exact Or.inr (Or.inl a)
      · exact Or.inr (Or.inr (Or.inl a))
    · exact Or.inr (Or.inr (Or.inr a))
  rcases hq with a | a | a | a
  · obtain ⟨s', f, e⟩ := c_mergeInsert (L := L) (xs := xs) (d := d) h hV hl2 hk a
    refine ⟨s', f, ?_⟩
    rcases e with ⟨S', e1, e2, e3⟩ | ⟨e1, e3⟩
    · refine Or.inl ⟨S', e1, e2, fun Q => ?_⟩
      rw [S0 Q, a, ts69_0]
      simp only [r69_36, r69_37, r69_38, r69_41, am_li0, am_liS, am_laR0, am_tL, g_oc, e3, am_okI, am_okR, List.length_cons, List.length_nil, Nat.reduceAdd, Nat.zero_le, Nat.reduceLeDiff, and_true, true_and, or_true, eq_self]
    · refine Or.inr ⟨e1, fun Q => ?_⟩
      rw [S0 Q, a, ts69_0]
      simp only [r69_36, r69_37, r69_38, r69_41, am_li0, am_liS, am_laR0, am_tL, g_oc, e3, am_okI, am_okR, List.length_cons, List.length_nil, Nat.reduceAdd, Nat.zero_le, Nat.reduceLeDiff, and_true, true_and, true_or, eq_self]
  · obtain ⟨s', f, e⟩ := c_mergeUpdate (L := L) (xs := xs) (d := d + 1) h hV hl2 hk a
    refine ⟨s', f, ?_⟩
    rcases e with ⟨S', e1, e2, e3⟩ | ⟨e1, e3⟩
    · refine Or.inl ⟨S', e1, e2, fun Q => ?_⟩
      rw [S0 Q, a, ts69_1]
      simp only [r69_42, r69_43, r69_44, r69_47, am_li0, am_liS, am_laR0, am_tL, g_oc, e3, am_okI, am_okR, List.length_cons, List.length_nil, Nat.reduceAdd, Nat.zero_le, Nat.reduceLeDiff, and_true, true_and, or_true, eq_self]
    · refine Or.inr ⟨e1, fun Q => ?_⟩
      rw [S0 Q, a, ts69_1]
      simp only [r69_42, r69_43, r69_44, r69_47, am_li0, am_liS, am_laR0, am_tL, g_oc, e3, am_okI, am_okR, List.length_cons, List.length_nil, Nat.reduceAdd, Nat.zero_le, Nat.reduceLeDiff, and_true, true_and, true_or, eq_self]
  · obtain ⟨s', f, e⟩ := c_mergeMove (L := L) (xs := xs) (d := d + 1) h hV hl2 hk a
    refine ⟨s', f, ?_⟩
    rcases e with ⟨S', e1, e2, e3⟩ | ⟨e1, e3⟩
    · refine Or.inl ⟨S', e1, e2, fun Q => ?_⟩
      rw [S0 Q, a, ts69_2]
      simp only [r69_48, r69_49, r69_50, r69_53, am_li0, am_liS, am_laR0, am_tL, g_oc, e3, am_okI, am_okR, List.length_cons, List.length_nil, Nat.reduceAdd, Nat.zero_le, Nat.reduceLeDiff, and_true, true_and, or_true, eq_self]
    · refine Or.inr ⟨e1, fun Q => ?_⟩
      rw [S0 Q, a, ts69_2]
      simp only [r69_48, r69_49, r69_50, r69_53, am_li0, am_liS, am_laR0, am_tL, g_oc, e3, am_okI, am_okR, List.length_cons, List.length_nil, Nat.reduceAdd, Nat.zero_le, Nat.reduceLeDiff, and_true, true_and, true_or, eq_self]
  · obtain ⟨s', f, e⟩ := c_mergeDelete (L := L) (xs := xs) (d := d + 1) h hV hl2 hk a
    refine ⟨s', f, ?_⟩
    rcases e with ⟨S', e1, e2, e3⟩ | ⟨e1, e3⟩
    · refine Or.inl ⟨S', e1, e2, fun Q => ?_⟩
      rw [S0 Q, a, ts69_3]
      simp only [r69_54, r69_55, r69_56, r69_59, am_li0, am_liS, am_laR0, am_tL, g_oc, e3, am_okI, am_okR, List.length_cons, List.length_nil, Nat.reduceAdd, Nat.zero_le, Nat.reduceLeDiff, and_true, true_and, or_true, eq_self]
    · refine Or.inr ⟨e1, fun Q => ?_⟩
      rw [S0 Q, a, ts69_3]
      simp only [r69_54, r69_55, r69_56, r69_59, am_li0, am_liS, am_laR0, am_tL, g_oc, e3, am_okI, am_okR, List.length_cons, List.length_nil, Nat.reduceAdd, Nat.zero_le, Nat.reduceLeDiff, and_true, true_and, true_or, eq_self]
end
