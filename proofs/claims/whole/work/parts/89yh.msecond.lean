/-! merge: one step of the second script in the reference -/
theorem kn_mono {k0 : Int32} : ∀ {l : List Sp} {k j : Nat} {q : Sp}, k < j → l[k]? = some q → q.1 = k0 → knC k0 (l.take k) < knC k0 (l.take j)
  | [], k, j, q, _, h, _ => by cases h
  | r :: l, k, 0, q, h, _, _ => absurd h (Nat.not_lt_zero _)
  | r :: l, 0, j + 1, q, _, h, e => by
    have h : some r = some q := h
    cases h
    rw [List.take_succ_cons, knC_c, if_pos e]
    show 0 < _
    omega
  | r :: l, k + 1, j + 1, q, hk, h, e => by
    have h : l[k]? = some q := h
    rw [List.take_succ_cons, List.take_succ_cons, knC_c, knC_c]
    have := kn_mono (show k < j by omega) h e
    omega
def frMm (s s' : St) : Prop := (∀ q, ¬ (147 ≤ q ∧ q ≤ 151) → q ≠ 154 → q ≠ 155 → s'.1 q = s.1 q) ∧ (∀ q k, ¬ (q = 121 ∧ k = 29) → ¬ (q = 121 ∧ k = 35) → s'.2.1 q k = s.2.1 q k) ∧ s'.2.2 = s.2.2
theorem frMm_r (s : St) : frMm s s := ⟨fun _ _ _ _ => rfl, fun _ _ _ _ => rfl, rfl⟩
theorem frMm_t {s s1 s2 : St} (h : frMm s s1) (h' : frMm s1 s2) : frMm s s2 := ⟨fun q a b c => (h'.1 q a b c).trans (h.1 q a b c), fun q k a b => (h'.2.1 q k a b).trans (h.2.1 q k a b), h'.2.2.trans h.2.2⟩
theorem frE_Mm {s s' : St} (h : frE s s') : frMm s s' := ⟨fun q a _ _ => h.1 q a, fun q k a b => h.2.1 q k a b, h.2.2⟩
theorem mG_E {s s' : St} {n I : Nat} {l1 l2 : List Sp} {S : Mg} {R : Rs} (h : mG s n I l1 l2 S) (f : frE s s') (hR : mR s' R) (ht : thA s' R.2.1) : mG s' n I l1 l2 (R, S.2) := by
  obtain ⟨-, -, g3, g4, g5, g6, g7⟩ := h
  refine ⟨hR, ht, msc_E f g3, msc_E f g4, by rw [f.1 145 (by omega)]; exact g5, fun j hj => by rw [f.1 155 (by omega)]; exact g6 j hj, fun k j hj hk h0 h1 => by rw [f.1 154 (by omega)]; exact g7 k j hj hk h0 h1⟩
/-- what a step comes to -/
def stM (L : Nat) (xs : Nat → Int32) (d z : Nat) (as : List Value) (n I : Nat) (l1 l2 : List Sp) (S : Mg) (q : Sp) (s : St) : Prop := ∃ s' : St, frMm s s' ∧ ((∃ S', mg1 n I l1 S q = some S' ∧ mG s' n I l1 l2 S' ∧ ∀ Q : Option Value → am_S → Prop, am_Call L xs d z as (mk s) Q = Q (some (.int 1)) (mk s')) ∨ (mg1 n I l1 S q = none ∧ ∀ Q : Option Value → am_S → Prop, am_Call L xs d z as (mk s) Q = Q (some (.int 0)) (mk s')))
section
variable {L : Nat} {xs : Nat → Int32} {d : Nat} {s : St}
theorem m_adds {n I k : Nat} {l1 l2 r : List Sp} {S : Mg} {q : Sp} {p b : Int32} (h : mG s n I l1 l2 S) (hV : mgV n I l1 S (q :: r)) (hl2 : l2.length ≤ 24) (hk : l2[k]? = some q) (h0 : q.1 = 0) (hP : mea n S.2.2.1 q.2.2.1 = p) (hB : mea n S.2.2.1 q.2.2.2.1 = b) : stM L xs (d + 3) 122 [.ref 121, .int (nI (120 + k)), .int (nI n), .int p, .int b] n I l1 l2 S q s := by
  have h' := h
  obtain ⟨w1', w2'⟩ := mg_va hV
  rw [hP] at w1'
  rw [hB] at w2'
  obtain ⟨h1, h2, h3, h4, h5, h6, h7⟩ := h
  obtain ⟨⟨v1, v2, v3⟩, hR, v5, v6, v7, v8, v9, v10, v11, v12⟩ := hV
  have hkl : k < l2.length := (List.getElem?_eq_some_iff.mp hk).1
  rw [nuS_c] at v8
  rw [knC_c, if_pos h0] at v3
  have e1 : q.2.1 = nI (n + S.2.1) := by
    rcases v8.2.2 with ⟨-, a, -⟩ | ⟨a, -, -⟩ | ⟨a, -, -⟩
    · exact a
    · rcases a with a | a <;> rw [h0] at a <;> exact absurd a (by decide)
    · rw [h0] at a; exact absurd a (by decide)
  have em : mg1 n I l1 S q = mgIns n I l1 S q p b (fdT l1 S.2.2.2 p b q.2.2.2.2.1 q.2.2.2.2.2) := by
    unfold mg1
    rw [if_pos h0, hP, hB]
  have n1 : ¬ (1 : Int32) = 0 := by decide
  have m0 : (-1 : Int32) < 0 := by decide
  have b0 : bI false = 0 := rfl
  have b1 : bI true = 1 := rfl
  have k1 : am_in (nI (120 + k)) 160 = true := in_of (by omega) (by decide)
  have k2 : (nI (120 + k)).toNatClampNeg = 120 + k := nI_clamp (by omega)
  have g1 : s.1 140 (120 + k) = nI (n + S.2.1) := by
    rw [← e1]
    exact h4.2 k _ hk 1 (by decide)
  have es := (sub_k ⟨n, by omega⟩ ⟨n + S.2.1, by omega⟩).2.1 (show n ≤ n + S.2.1 by omega)
  have es : nI (n + S.2.1) - nI n = nI (n + S.2.1 - n) := es
  rw [show n + S.2.1 - n = S.2.1 by omega] at es
  have i1 : am_in (nI S.2.1) 12 = true := in_of (by omega) (by decide)
  have i2 : (nI S.2.1).toNatClampNeg = S.2.1 := nI_clamp (by omega)
  have ai : ∀ Q : Option Value → am_S → Prop, am_Call L xs (d + 2) 123 [.ref 121, .int (nI (120 + k)), .int p, .int b, .int (nI n)] (mk s) Q = Q (some (.int (o80 (fdT l1 S.2.2.2 p b q.2.2.2.2.1 q.2.2.2.2.2)))) (mk s) := fun Q => by
    have := m_alikeInsert (L := L) (xs := xs) (d := d + 2) (p := p) (b := b) (Q := Q) h' v1 (by omega) v9 v11 hl2 hkl
    rw [lg_at hk, lg_at hk] at this
    exact this
  unfold stM
  rw [em]
  cases hf : fdT l1 S.2.2.2 p b q.2.2.2.2.1 q.2.2.2.2.2 with
  | some j =>
    obtain ⟨-, j2, j4⟩ := fiF_some hf
    have jl : j < l1.length := by omega
    rw [hf, o80_s] at ai
    have hg : l1[j]? = some l1[j] := List.getElem?_eq_getElem jl
    unfold tP at j4
    rw [Bool.and_eq_true, Bool.and_eq_true, decide_eq_true_iff, lg_at hg] at j4
    obtain ⟨i', x1, x2, x3⟩ := nu_ins v9 hg j4.1.1
    rw [Nat.add_zero] at x1
    have y1 : lg l1 1 j = nI (n + i') := by rw [lg_at hg]; exact x1
    have c0 : ¬ nI (80 + j) < 0 := nI_pos (by omega)
    have z1 : am_in (nI (80 + j)) 160 = true := in_of (by omega) (by decide)
    have z2 : (nI (80 + j)).toNatClampNeg = 80 + j := nI_clamp (by omega)
    have z3 : s.1 140 (80 + j) = nI (n + i') := by rw [← y1]; exact msc_lg h3 (show 1 < 6 by decide) jl
    have es2 := (sub_k ⟨n, by omega⟩ ⟨n + i', by omega⟩).2.1 (show n ≤ n + i' by omega)
    have es2 : nI (n + i') - nI n = nI (n + i' - n) := es2
    rw [show n + i' - n = i' by omega] at es2
    have u1 : am_in (nI i') 12 = true := in_of (by omega) (by decide)
    have u2 : (nI i').toNatClampNeg = i' := nI_clamp (by omega)
    have nb1 : vp_nar .boolean 1 = 1 := rfl
    have o1 : ∀ (m : Nat) (x : Int32), (w1 s 154 m x).1 140 = s.1 140 := fun m x => w1_o s m x (by omega)
    generalize hs1 : w1 (w1 s 154 i' 1) 155 S.2.1 (nI (n + i')) = s1
    have a1 : s1.1 154 = upd (s.1 154) i' 1 := by rw [← hs1, w1_o _ _ _ (by omega), w1_q]
    have a2 : s1.1 155 = upd (s.1 155) S.2.1 (nI (n + i')) := by rw [← hs1, w1_q, w1_o _ _ _ (by omega)]
    have a3 : ∀ q, q ≠ 154 → q ≠ 155 → s1.1 q = s.1 q := fun q q1 q2 => by rw [← hs1, w1_o _ _ _ q2, w1_o _ _ _ q1]
    have a4 : s1.2 = s.2 := by rw [← hs1]; rfl
    refine ⟨s1, ⟨fun q _ q1 q2 => a3 q q1 q2, fun q k _ _ => by rw [a4], by rw [a4]⟩, Or.inl ⟨_, rfl, ?_, fun Q => ?_⟩⟩
    · rw [y1, nI_clamp (by omega)]
      refine ⟨mR_congr (fun q q1 q2 => a3 q (by omega) (by omega)) (by rw [a4]) (by rw [a4]) h1, thA_congr (a3 147 (by omega) (by omega)) h2, ⟨by rw [a3 138 (by omega) (by omega)]; exact h3.1, fun k p hk j hj => by rw [a3 _ (by omega) (by omega)]; exact h3.2 k p hk j hj⟩, ⟨by rw [a3 138 (by omega) (by omega)]; exact h4.1, fun k p hk j hj => by rw [a3 _ (by omega) (by omega)]; exact h4.2 k p hk j hj⟩, by rw [a3 145 (by omega) (by omega)]; exact h5, fun m hm => ?_, fun m j' hj' hm f0 f1 => ?_⟩
      · have hm : m < S.2.1 + 1 := hm
        rw [a2]
        show upd (s.1 155) S.2.1 (nI (n + i')) m = nI (uN S.2.2.1 S.2.1 (n + i') m)
        unfold uN
        by_cases e : m = S.2.1
        · rw [e, upd_s, if_pos rfl]
        · rw [upd_n _ _ e, if_neg e]; exact h6 m (by omega)
      · rw [a1]
        show upd (s.1 154) i' 1 j' = bI (bU S.2.2.2 j m)
        by_cases e : m = j
        · subst e
          rw [y1] at f1
          have := (nI_eq (by omega) (by omega)).mp f1
          rw [show j' = i' by omega, upd_s, bU_s]; rfl
        · have hgm : l1[m]? = some l1[m] := List.getElem?_eq_getElem hm
          rw [lg_at hgm] at f0
          have f0 : l1[m].1 = 0 := f0
          obtain ⟨i2', t1, t2, t3⟩ := nu_ins v9 hgm f0
          rw [Nat.add_zero] at t1
          have f1' := f1
          rw [lg_at hgm] at f1'
          have f1' : l1[m].2.1 = nI (n + j') := f1'
          rw [t1] at f1'
          have := (nI_eq (by omega) (by omega)).mp f1'
          have ne : j' ≠ i' := by
            rcases Nat.lt_or_gt_of_ne e with q | q
            · have := kn_mono q hgm f0
              omega
            · have := kn_mono q hg j4.1.1
              omega
          rw [upd_n _ _ ne, bU_n _ e]
          exact h7 m j' hj' hm (by rw [lg_at hgm]; exact f0) f1
    · simp only [e122, r122_0, r122_1, r122_4, r122_5, r122_6, r122_7, r122_8, r122_10, r122_11, r122_12, r122_13, r122_15, r122_16, r122_19, r122_21, r122_23, r122_26, r122_27, r122_30, r122_31, r122_34, r122_36, r122_37, r122_38, r122_39, r122_40, r122_41, r122_42, r122_45, r122_47, r122_48, r122_51, r122_53, r122_54, r122_55, r122_56, am_li0, am_liS, am_laR0, am_tL, m_oc, g121_20, g121_38, g121_39, a140, w154', w155', ai, g1, es, es2, k1, k2, i1, i2, c0, z1, z2, z3, u1, u2, nb1, o1, hs1, if_false, am_okI, am_okR, List.length_cons, List.length_nil, List.set_cons_succ, List.set_cons_zero, Nat.reduceAdd, Nat.reduceLT, Nat.zero_le, Nat.reduceLeDiff, and_true, true_and, or_true, eq_self]
  | none =>
    rw [hf, o80_n] at ai
    have fu : ∀ Q : Option Value → am_S → Prop, am_Call L xs (d + 2) 124 [.ref 121, .int p, .int b] (mk s) Q = _ := fun Q => m_fitsUnder (d := d + 1) hR h1 h2 w1' w2'
    have S0 : ∀ Q : Option Value → am_S → Prop, am_Call L xs (d + 3) 122 [.ref 121, .int (nI (120 + k)), .int (nI n), .int p, .int b] (mk s) Q = am_Rn L xs (d + 3) 122 64 [.ref 121, .int (nI (120 + k)), .int (nI n), .int p, .int b, .int (nI S.2.1), .int (-1)] [.int (bI (canB S.1 p b))] (mk s) Q := fun Q => by
      simp only [e122, r122_0, r122_1, r122_4, r122_5, r122_6, r122_7, r122_8, r122_10, r122_11, r122_12, r122_13, r122_15, r122_16, r122_19, r122_21, r122_23, r122_57, r122_58, r122_59, r122_61, am_li0, am_liS, am_laR0, am_tL, m_oc, g121_20, a140, ai, fu, g1, es, k1, k2, m0, if_true, am_okI, am_okR, List.length_cons, List.length_nil, List.set_cons_succ, List.set_cons_zero, Nat.reduceAdd, Nat.reduceLT, Nat.zero_le, Nat.reduceLeDiff, and_true, true_and]
    show ∃ s' : St, frMm s s' ∧ ((∃ S', (if canB S.1 p b = true then some (doS S.1 (0, nI (n + I + S.2.1), p, b, q.2.2.2.2.1, q.2.2.2.2.2), S.2.1 + 1, uN S.2.2.1 S.2.1 (n + I + S.2.1), S.2.2.2) else none) = some S' ∧ _) ∨ ((if canB S.1 p b = true then some (doS S.1 (0, nI (n + I + S.2.1), p, b, q.2.2.2.2.1, q.2.2.2.2.2), S.2.1 + 1, uN S.2.2.1 S.2.1 (n + I + S.2.1), S.2.2.2) else none) = none ∧ _))
    cases hc : canB S.1 p b with
    | false =>
      refine ⟨s, frMm_r s, Or.inr ⟨if_neg (by decide), fun Q => ?_⟩⟩
      rw [S0 Q, hc, b0]
      simp only [r122_64, r122_67, r122_68, not_true, if_false, true_or, eq_self]
    | true =>
      have hv : n + I + S.2.1 ∉ S.1.2.1 := fun q => by have := v6 _ q; omega
      obtain ⟨o1, -⟩ := can_ok (v := n + I + S.2.1) hR w1' w2' hc
      have e9 : nI n + nI I + nI S.2.1 = nI (n + I + S.2.1) := by rw [nI_add, nI_add]
      generalize hs1 : w1 s 155 S.2.1 (nI (n + I + S.2.1)) = s1
      have a2 : s1.1 155 = upd (s.1 155) S.2.1 (nI (n + I + S.2.1)) := by rw [← hs1, w1_q]
      have a3 : ∀ q, q ≠ 155 → s1.1 q = s.1 q := fun q q2 => by rw [← hs1, w1_o _ _ _ q2]
      have a4 : s1.2 = s.2 := by rw [← hs1]; rfl
      have a5 : s1.1 155 S.2.1 = nI (n + I + S.2.1) := by rw [a2, upd_s]
      have hG1 : mG s1 n I l1 l2 (S.1, S.2.1 + 1, uN S.2.2.1 S.2.1 (n + I + S.2.1), S.2.2.2) := by
        refine ⟨mR_congr (fun q q1 q2 => a3 q (by omega)) (by rw [a4]) (by rw [a4]) h1, thA_congr (a3 147 (by omega)) h2, ⟨by rw [a3 138 (by omega)]; exact h3.1, fun k p hk j hj => by rw [a3 _ (by omega)]; exact h3.2 k p hk j hj⟩, ⟨by rw [a3 138 (by omega)]; exact h4.1, fun k p hk j hj => by rw [a3 _ (by omega)]; exact h4.2 k p hk j hj⟩, by rw [a3 145 (by omega)]; exact h5, fun m hm => ?_, fun m j' hj' hm f0 f1 => by rw [a3 154 (by omega)]; exact h7 m j' hj' hm f0 f1⟩
        have hm : m < S.2.1 + 1 := hm
        rw [a2]
        show upd (s.1 155) S.2.1 (nI (n + I + S.2.1)) m = nI (uN S.2.2.1 S.2.1 (n + I + S.2.1) m)
        unfold uN
        by_cases e : m = S.2.1
        · rw [e, upd_s, if_pos rfl]
        · rw [upd_n _ _ e, if_neg e]; exact h6 m (by omega)
      have g0 : s1.1 139 (120 + k) = 0 := by rw [a3 139 (by omega), ← h0]; exact h4.2 k _ hk 0 (by decide)
      have g4 : s1.1 143 (120 + k) = q.2.2.2.2.1 := by rw [a3 143 (by omega)]; exact h4.2 k _ hk 4 (by decide)
      have g5 : s1.1 144 (120 + k) = q.2.2.2.2.2 := by rw [a3 144 (by omega)]; exact h4.2 k _ hk 5 (by decide)
      obtain ⟨s2, c1, c2, c3, c4⟩ := m_does (L := L) (xs := xs) (d := d) (at' := 120 + k) (by omega) g0 g4 g5 hR hG1.1 hG1.2.1 (show n + I + S.2.1 < 36 by omega) (Or.inl ⟨rfl, hv, o1⟩)
      have z1 : am_in 2 4 = true := by decide
      have z2 : (2 : Int32).toNatClampNeg = 2 := rfl
      refine ⟨s2, frMm_t ⟨fun q _ _ q2 => a3 q q2, fun q k _ _ => by rw [a4], by rw [a4]⟩ (frE_Mm c3), Or.inl ⟨_, if_pos rfl, mG_E hG1 c3 c1 c2, fun Q => ?_⟩⟩
      rw [S0 Q, hc, b1]
      simp only [r122_64, r122_69, r122_70, r122_73, r122_75, r122_76, r122_77, r122_80, r122_81, r122_82, r122_83, r122_85, r122_86, r122_87, r122_88, r122_89, r122_90, r122_93, r122_95, r122_96, r122_97, r122_99, r122_102, r122_103, am_li0, am_liS, am_laR0, am_tN, m_oc, g121_25, g121_39, a145, a155', w155', h5, e9, i1, i2, z1, z2, hs1, a5, c4, n1, not_false_eq_true, if_true, am_okI, am_okR, List.length_cons, List.length_nil, List.set_cons_succ, List.set_cons_zero, Nat.reduceAdd, Nat.reduceLT, Nat.zero_le, Nat.reduceLeDiff, and_true, true_and, or_true, eq_self]
end
