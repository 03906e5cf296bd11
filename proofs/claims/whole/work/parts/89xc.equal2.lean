/-! equal, whole -/
section
variable {L : Nat} {xs : Nat → Int32} {d : Nat} {s : St}
theorem m_equalT {R : Rs} {t : Tr} {j : Nat} (h7 : s.2.1 121 28 = 1) (hR : rOk R) (h : mR s R) (hj : j < 3) (hT : mT s j t) (hw : tW t) :
    ∃ s' : St, frQ s s' ∧ ∀ Q : Option Value → am_S → Prop, am_Call L xs (d + 1) 130 [.ref 121, .int (nI j)] (mk s) Q = Q (some (.int (bI (eqA R t)))) (mk s') := by
  have h12 := hw.1
  have h36 := hR.1
  have n1 : ¬ (1 : Int32) = 0 := by decide
  have m1 : (-1 : Int32) < 0 := by decide
  have b0 : bI false = 0 := rfl
  have j1 : am_in (nI j) 4 = true := in_of (by omega) (by decide)
  have j2 : (nI j).toNatClampNeg = j := nI_clamp (by omega)
  have z1 : am_in 0 36 = true := by decide
  have z2 : (0 : Int32).toNatClampNeg = 0 := rfl
  have t0 : ∀ (s : St) (_ : mR s R) (Q : Option Value → am_S → Prop), am_Call L xs d 131 [.ref 121, .int (-1), .int 0] (mk s) Q = Q (some (.int (oI (kdL R.2.2.1 (-1) R.2.1 0)))) (mk s) := fun s hM Q => m_twig (k := 0) hR hM (by decide)
  have t1 : ∀ Q : Option Value → am_S → Prop, am_Call L xs d 131 [.ref 121, .int (-1), .int 1] (mk s) Q = Q (some (.int (oI (kdL R.2.2.1 (-1) R.2.1 1)))) (mk s) := fun Q => m_twig (k := 1) hR h (by decide)
  have t0' := t0 s h
  unfold eqA
  by_cases ht : t.1 = 0
  · refine ⟨s, ⟨fun _ _ _ => rfl, rfl⟩, fun Q => ?_⟩
    have e0 : s.1 122 j = 0 := by rw [hT.1, ht]; rfl
    rw [decide_eq_false (show ¬ 0 < t.1 by omega), Bool.and_false, Bool.false_and, b0]
    simp only [e130, r130_0, r130_1, r130_4, r130_7, r130_8, r130_11, r130_14, r130_15, r130_18, r130_19, r130_20, r130_41, r130_42, am_li0, am_liS, am_laR0, am_tL, g121_0, g121_28, a122, h7, m_isTree1 hj, j1, j2, e0, n1, if_true, if_false, am_okI, List.length_nil, Nat.zero_le, and_true, true_and, true_or, eq_self]
  · have e0 : ¬ nI t.1 = 0 := nI_ne0 (by omega) (by omega)
    by_cases c1 : ctL R.2.2.1 (-1) R.2.1 = 1
    · obtain ⟨z, ez, hz⟩ := kdL_ex hR (show 0 < ctL R.2.2.1 (-1) R.2.1 by omega)
      have k1 : kdL R.2.2.1 (-1) R.2.1 1 = none := kdL_none.mpr (by omega)
      have zz : ¬ nI z < 0 := nI_pos (rOk_lt hR z hz)
      rw [ez, oI_some] at t0'
      rw [k1, oI_none] at t1
      generalize hs1 : w1 (w1 s 152 0 (nI z)) 153 0 0 = s1
      have f1 : frQ s s1 := by rw [← hs1]; exact ⟨fun q n1 n2 => by rw [w1_o _ _ _ n2, w1_o _ _ _ n1], rfl⟩
      have hA : bfA s1 [z] [0] := ⟨rfl, fun k hk => by
        have e : k = 0 := by
          have hk : k < 1 := hk
          omega
        subst e
        rw [← hs1]
        exact ⟨by rw [w1_o _ _ _ (by omega), w1_a]; rfl, by rw [w1_a]; rfl⟩⟩
      have hI0 : bfI R t [z] [0] 0 := by
        refine ⟨fun v hv => ?_, fun y hy => ?_, List.nodup_cons.mpr ⟨fun q => (by cases q), List.nodup_nil⟩, fun c hc => ?_⟩
        · rcases List.mem_cons.mp hv with q | q
          · rw [q]; exact hz
          · cases q
        · rcases List.mem_cons.mp hy with q | q
          · omega
          · cases q
        · rcases List.mem_cons.mp hc with q | q
          · exact Or.inl q
          · cases q
      obtain ⟨s2, b, g1, g2, g3⟩ := m_eq_out (L := L) (xs := xs) (d := d) 13 0 [z] [0] s1 (.retAddr 0) (.retAddr 0) (.retAddr 0) rfl (by decide) (eqH_Q f1 ⟨hR, h, hj, hT, hw⟩) hA hI0
      have eb : b = (decide (ctL R.2.2.1 (-1) R.2.1 = 1) && decide (0 < t.1) && kB (eqN R t 13) (kdL R.2.2.1 (-1) R.2.1 0) (some 0)) := by
        rw [decide_eq_true c1, decide_eq_true (show 0 < t.1 by omega), ez, kB_ss, Bool.true_and, Bool.true_and, Bool.eq_iff_iff, g1]
        constructor
        · intro q
          exact q 0 (Nat.le_refl _) (by decide)
        · intro q k _ hk
          have e : k = 0 := by
            have hk : k < 1 := hk
            omega
          subst e
          exact q
      refine ⟨s2, frQ_t f1 g2, fun Q => ?_⟩
      have g3 : am_Rn L xs (d + 1) 130 66 [.ref 121, .int (nI j), .int 1, .int 0, .retAddr 0, .retAddr 0, .retAddr 0] [] (mk s1) Q = _ := g3 Q
      rw [← eb, ← g3]
      simp only [e130, r130_0, r130_1, r130_4, r130_7, r130_8, r130_11, r130_14, r130_15, r130_18, r130_19, r130_20, r130_23, r130_24, r130_25, r130_26, r130_29, r130_32, r130_33, r130_34, r130_35, r130_38, r130_43, r130_44, r130_47, r130_48, r130_49, r130_50, r130_51, r130_54, r130_55, r130_56, r130_59, r130_60, r130_61, r130_62, r130_63, r130_64, r130_65, am_li0, am_liS, am_laR0, am_tL, m_oc, g121_0, g121_28, g121_36, g121_37, a122, w152', w153', h7, m_isTree1 hj, j1, j2, hT.1, e0, t0', t1, zz, m1, z1, z2, hs1, n1, if_true, if_false, am_okI, am_okR, List.length_cons, List.length_nil, List.set_cons_succ, List.set_cons_zero, Nat.reduceAdd, Nat.reduceLT, Nat.zero_le, Nat.reduceLeDiff, and_true, true_and]
    · refine ⟨s, ⟨fun _ _ _ => rfl, rfl⟩, fun Q => ?_⟩
      rw [decide_eq_false c1, Bool.false_and, Bool.false_and, b0]
      by_cases c0 : ctL R.2.2.1 (-1) R.2.1 = 0
      · have k1 : kdL R.2.2.1 (-1) R.2.1 0 = none := kdL_none.mpr (by omega)
        rw [k1, oI_none] at t0'
        simp only [e130, r130_0, r130_1, r130_4, r130_7, r130_8, r130_11, r130_14, r130_15, r130_18, r130_19, r130_20, r130_23, r130_24, r130_25, r130_26, r130_29, r130_41, r130_42, am_li0, am_liS, am_laR0, am_tL, m_oc, g121_0, g121_28, a122, h7, m_isTree1 hj, j1, j2, hT.1, e0, t0', m1, n1, if_true, if_false, am_okI, am_okR, List.length_cons, List.length_nil, Nat.reduceAdd, Nat.zero_le, Nat.reduceLeDiff, and_true, true_and, true_or, eq_self]
      · obtain ⟨z, ez, hz⟩ := kdL_ex hR (show 0 < ctL R.2.2.1 (-1) R.2.1 by omega)
        obtain ⟨z', ez', hz'⟩ := kdL_ex hR (show 1 < ctL R.2.2.1 (-1) R.2.1 by omega)
        have zz : ¬ nI z < 0 := nI_pos (rOk_lt hR z hz)
        have zz' : ¬ nI z' < 0 := nI_pos (rOk_lt hR z' hz')
        rw [ez, oI_some] at t0'
        rw [ez', oI_some] at t1
        simp only [e130, r130_0, r130_1, r130_4, r130_7, r130_8, r130_11, r130_14, r130_15, r130_18, r130_19, r130_20, r130_23, r130_24, r130_25, r130_26, r130_29, r130_32, r130_33, r130_34, r130_35, r130_38, r130_41, r130_42, am_li0, am_liS, am_laR0, am_tL, m_oc, g121_0, g121_28, a122, h7, m_isTree1 hj, j1, j2, hT.1, e0, t0', t1, zz, zz', n1, if_false, am_okI, am_okR, List.length_cons, List.length_nil, Nat.reduceAdd, Nat.zero_le, Nat.reduceLeDiff, and_true, true_and, true_or, eq_self]
theorem m_equalF {a : Int32} {Q : Option Value → am_S → Prop} (h7 : s.2.1 121 28 = 1) (h : a < 0 ∨ 3 ≤ a) : am_Call L xs (d + 1) 130 [.ref 121, .int a] (mk s) Q = Q (some (.int 0)) (mk s) := by
  have n1 : ¬ (1 : Int32) = 0 := by decide
  simp only [e130, r130_0, r130_1, r130_4, r130_7, r130_8, r130_11, r130_41, r130_42, am_li0, am_liS, am_laR0, am_tL, g121_28, h7, m_isTree0 h, n1, if_true, if_false, am_okI, List.length_nil, Nat.zero_le, and_true, true_and, true_or, eq_self]
/-- only the queue has changed -/
theorem gI_Q {s' : St} (h : gI s) (f : frQ s s') : gI s' := by
  obtain ⟨⟨T, hT⟩, h2, h3⟩ := h
  refine ⟨⟨T, fun i hi => ?_⟩, ?_, ?_⟩
  · obtain ⟨g1, g2, g3⟩ := hT i hi
    exact ⟨g1, cT_congr (fun q z1 z2 => f.1 q (by omega) (by omega)) (by rw [f.2]) g2, mT_congr (fun q z1 z2 => f.1 q (by omega) (by omega)) g3⟩
  · exact dK_fr (fun q hq => f.1 q (by omega) (by omega)) (fun t _ hm => mT_congr (fun q z1 z2 => f.1 q (by omega) (by omega)) hm) (by rw [f.1 138 (by omega) (by omega)]) (fun q m q1 q2 _ _ => by rw [f.1 q (by omega) (by omega)]) (by rw [f.2]) (by rw [f.2]) (by rw [f.2]) (by rw [f.2]) h2
  · exact rK_fr (fun q hq => f.1 q (by omega) (by omega)) (by rw [f.2]) (by rw [f.2]) (by rw [f.2]) (by rw [f.2]) (by rw [f.2]) h3
theorem ok_equal (h : gI s) (a : Int32) : op_ok L xs 82 130 [.int a] s gI := by
  have hg := h
  obtain ⟨⟨T, hT⟩, -, h3⟩ := h
  rcases h3 with ⟨r1, r2⟩ | ⟨R, r1, r2, r3, r4, r5, r6⟩
  · exact ⟨0, s, s, fun Q q => by rw [c_equal0 r1]; exact q, fun Q q => by rw [m_equal0 r2]; exact q, hg⟩
  · rcases tree_or a with q | ⟨j, hj, rfl⟩
    · exact ⟨0, s, s, fun Q r => by rw [c_equalF (d := 98) r1 q]; exact r, fun Q r => by rw [m_equalF (d := 98) r2 q]; exact r, hg⟩
    · obtain ⟨hw, hc, hm⟩ := hT j hj
      obtain ⟨s2, b1, b2⟩ := m_equalT (L := L) (xs := xs) (d := 98) r2 r3 r5 hj hm hw
      exact ⟨bI (eqA R (T j)), s, s2, fun Q q => by rw [c_equalT (d := 56) r1 r3 r4 hj hc hw]; exact q, fun Q q => by rw [b2]; exact q, gI_Q hg b1⟩
/-- the start -/
theorem gI_0 : gI in_St := by
  obtain ⟨f1, f2, f3, f4, f5, f6, f7, f8⟩ := in_facts
  refine ⟨⟨fun _ => (0, fun _ => 0, fun _ => 0, fun _ => 0), fun j hj => ⟨⟨Nat.zero_le _, fun n hn => absurd hn (Nat.not_lt_zero _)⟩, ⟨(f5 j hj).1, fun n hn => absurd hn (Nat.not_lt_zero _), fun n _ hn => (f5 j hj).2 n hn⟩, ⟨(f6 j (by omega)).1, fun n hn => absurd hn (Nat.not_lt_zero _)⟩⟩⟩, Or.inl ⟨f3, f7, (f6 1 (by omega)).2⟩, Or.inl ⟨f4, f8⟩⟩
end
