/-! node -/
section
variable {L : Nat} {xs : Nat → Int32} {d : Nat} {s : St}
theorem ts81_0 {ls st : List Value} {σ : am_S} {Q : Option Value → am_S → Prop} : am_Rn L xs d 81 22 ls (.int (nI 0) :: st) σ Q = am_Rn L xs d 81 52 ls st σ Q := am_r_tsIn (t := 52) d81_22 (by decide +kernel) (off := 30) (by decide +kernel) (by decide)
theorem ts81_1 {ls st : List Value} {σ : am_S} {Q : Option Value → am_S → Prop} : am_Rn L xs d 81 22 ls (.int (nI 1) :: st) σ Q = am_Rn L xs d 81 62 ls st σ Q := am_r_tsIn (t := 62) d81_22 (by decide +kernel) (off := 40) (by decide +kernel) (by decide)
theorem ts81_2 {ls st : List Value} {σ : am_S} {Q : Option Value → am_S → Prop} : am_Rn L xs d 81 22 ls (.int (nI 2) :: st) σ Q = am_Rn L xs d 81 72 ls st σ Q := am_r_tsIn (t := 72) d81_22 (by decide +kernel) (off := 50) (by decide +kernel) (by decide)
theorem ts81_3 {ls st : List Value} {σ : am_S} {Q : Option Value → am_S → Prop} : am_Rn L xs d 81 22 ls (.int (nI 3) :: st) σ Q = am_Rn L xs d 81 82 ls st σ Q := am_r_tsIn (t := 82) d81_22 (by decide +kernel) (off := 60) (by decide +kernel) (by decide)
theorem ts81_d {ls st : List Value} {σ : am_S} {x : Int32} {Q : Option Value → am_S → Prop} (h : x < 0 ∨ 4 ≤ x) : am_Rn L xs d 81 22 ls (.int x :: st) σ Q = am_Rn L xs d 81 92 ls st σ Q := am_r_tsOut (t := 92) d81_22 (by
  rcases h with h | h
  · rw [Int32.lt_iff_toInt_lt] at h
    have e : (0 : Int32).toInt = 0 := rfl
    omega
  · rw [Int32.le_iff_toInt_le] at h
    have e : (4 : Int32).toInt = 4 := rfl
    omega) (by decide)
/-- the part of a node -/
def ndC (R : Rs) (v : Nat) : Nat → Int32
  | 0 => R.2.2.1 v
  | 1 => nI (plL R.2.2.1 (R.2.2.1 v) R.2.1 v)
  | 2 => R.2.2.2.1 v
  | _ => R.2.2.2.2 v
theorem c_nodeT {R : Rs} {v j : Nat} {Q : Option Value → am_S → Prop} (h7 : s.2.1 0 7 = 1) (hR : rOk R) (h : cR s R) (hv : v ∈ R.2.1) (hj : j < 4) : am_Call L xs (d + 1) 81 [.ref 0, .int (nI v), .int (nI j)] (mk s) Q = Q (some (.int (ndC R v j))) (mk s) := by
  have h36 := hR.1
  have hvu := hR.2.2.1 v hv
  have n1 : ¬ (1 : Int32) = 0 := by decide
  have hh : ∃ j, j < R.1 ∧ nI v = nI j ∧ ¬ s.1 (54 + 1) j = -2 := (cR_hs hR h (nI v)).mpr (hsB_iff.mpr ⟨v, hv, rfl⟩)
  have k1 : am_in (nI v) 36 = true := in_of (by omega) (by decide)
  have k2 : (nI v).toNatClampNeg = v := nI_clamp (by omega)
  obtain ⟨e1, e2, e3, e4⟩ := h.2.2 v hv
  have e1 : s.1 (54 + 1) v = R.2.2.1 v := e1
  have e2 : s.1 (54 + 2) v = nI (plL R.2.2.1 (R.2.2.1 v) R.2.1 v) := e2
  have e3 : s.1 (54 + 3) v = R.2.2.2.1 v := e3
  have e4 : s.1 (54 + 4) v = R.2.2.2.2 v := e4
  have ej : j = 0 ∨ j = 1 ∨ j = 2 ∨ j = 3 := by omega
  have r : am_Call L xs (d + 1) 81 [.ref 0, .int (nI v), .int (nI j)] (mk s) Q = am_Rn L xs (d + 1) 81 22 [.ref 0, .int (nI v), .int (nI j)] [.int (nI j)] (mk s) Q := by
    simp only [e81, r81_0, r81_1, r81_4, r81_7, r81_8, r81_11, r81_12, r81_15, r81_21, am_li0, am_liS, am_laR0, am_tL, g0_5, g0_7, h7, f_oc isF_54, c_has isF_54 (by decide) h.1 h36, hh, n1, not_false_eq_true, if_true, if_false, am_okI, List.length_nil, Nat.zero_le, and_true, true_and]
  rw [r]
  rcases ej with rfl | rfl | rfl | rfl
  · rw [ts81_0]
    simp only [r81_52, r81_53, r81_56, r81_59, r81_60, r81_61, am_li0, am_liS, am_laR0, g0_5, f_par isF_54, fa_par isF_54, k1, k2, e1, true_and]
    rfl
  · rw [ts81_1]
    simp only [r81_62, r81_63, r81_66, r81_69, r81_70, r81_71, am_li0, am_liS, am_laR0, g0_5, f_pla isF_54, fa_pla isF_54, k1, k2, e2, true_and]
    rfl
  · rw [ts81_2]
    simp only [r81_72, r81_73, r81_76, r81_79, r81_80, r81_81, am_li0, am_liS, am_laR0, g0_5, f_typ isF_54, fa_typ isF_54, k1, k2, e3, true_and]
    rfl
  · rw [ts81_3]
    simp only [r81_82, r81_83, r81_86, r81_89, r81_90, r81_91, am_li0, am_liS, am_laR0, g0_5, f_lab isF_54, fa_lab isF_54, k1, k2, e4, true_and]
    rfl
theorem c_nodeF {R : Rs} {a b : Int32} {Q : Option Value → am_S → Prop} (h7 : s.2.1 0 7 = 1) (hR : rOk R) (h : cR s R) (hf : hsB R.2.1 a = false ∨ b < 0 ∨ 4 ≤ b) : am_Call L xs (d + 1) 81 [.ref 0, .int a, .int b] (mk s) Q = Q (some (.int (-2))) (mk s) := by
  have h36 := hR.1
  have n1 : ¬ (1 : Int32) = 0 := by decide
  cases hs : hsB R.2.1 a with
  | false =>
    have hh : ¬ ∃ j, j < R.1 ∧ a = nI j ∧ ¬ s.1 (54 + 1) j = -2 := fun q => by
      have := (cR_hs hR h a).mp q
      rw [hs] at this; cases this
    simp only [e81, r81_0, r81_1, r81_4, r81_7, r81_8, r81_11, r81_12, r81_15, r81_18, r81_20, am_li0, am_liS, am_laR0, am_tL, g0_5, g0_7, h7, f_oc isF_54, c_has isF_54 (by decide) h.1 h36, hh, n1, not_true, if_false, am_okI, List.length_nil, Nat.zero_le, and_true, true_and]
  | true =>
    have hb : b < 0 ∨ 4 ≤ b := hf.resolve_left (by rw [hs]; decide)
    have hh : ∃ j, j < R.1 ∧ a = nI j ∧ ¬ s.1 (54 + 1) j = -2 := (cR_hs hR h a).mpr hs
    have r : am_Call L xs (d + 1) 81 [.ref 0, .int a, .int b] (mk s) Q = am_Rn L xs (d + 1) 81 22 [.ref 0, .int a, .int b] [.int b] (mk s) Q := by
      simp only [e81, r81_0, r81_1, r81_4, r81_7, r81_8, r81_11, r81_12, r81_15, r81_21, am_li0, am_liS, am_laR0, am_tL, g0_5, g0_7, h7, f_oc isF_54, c_has isF_54 (by decide) h.1 h36, hh, n1, not_false_eq_true, if_true, if_false, am_okI, List.length_nil, Nat.zero_le, and_true, true_and]
    rw [r, ts81_d hb]
    simp only [r81_92, r81_94]
/-- the place, counted along the line -/
theorem m_nd_pl {R : Rs} {v : Nat} {v2 : Value} {Q : Option Value → am_S → Prop} (hR : rOk R) (h : mR s R) (hv : v ∈ R.2.1) : ∀ (r : List Nat) (k c : Nat), k + r.length = R.2.1.length → (∀ i, i < r.length → nthL R.2.1 (k + i) = nthL r i) → (∀ z, z ∈ r → z ∈ R.2.1) → v ∈ r →
    am_Rn L xs d 129 84 [.ref 121, .int (nI v), v2, .int (nI c), .int (nI k)] [] (mk s) Q = Q (some (.int (nI (c + plL R.2.2.1 (R.2.2.1 v) r v)))) (mk s)
  | [], k, c, hk, hn, hm, hvr => by cases hvr
  | z :: r, k, c, hk, hn, hm, hvr => by
    have h36 := hR.1
    have hlen := rOk_len hR
    rw [List.length_cons] at hk
    have h1 : ¬ nI R.2.1.length ≤ nI k := nI_ge (by omega) (by omega)
    have k1 : am_in (nI k) 36 = true := in_of (by omega) (by decide)
    have k2 : (nI k).toNatClampNeg = k := nI_clamp (by omega)
    have hz : nthL R.2.1 k = z := hn 0 (by rw [List.length_cons]; omega)
    have e1 : s.1 151 k = nI z := by rw [h.2.2.1 k (by omega), hz]
    have hzl := hm z List.mem_cons_self
    have hz36 := hR.2.2.1 z hzl
    have hv36 := hR.2.2.1 v hv
    have z1 : am_in (nI z) 36 = true := in_of (by omega) (by decide)
    have z2 : (nI z).toNatClampNeg = z := nI_clamp (by omega)
    have v1 : am_in (nI v) 36 = true := in_of (by omega) (by decide)
    have v2' : (nI v).toNatClampNeg = v := nI_clamp (by omega)
    have g1 := (h.2.2.2 z hzl).1
    have g2 := (h.2.2.2 v hv).1
    rw [plL_c, r129_84]
    by_cases e : z = v
    · rw [if_pos e, Nat.add_zero]
      rw [e] at e1
      simp only [r129_86, r129_87, r129_90, r129_93, r129_94, r129_97, r129_99, r129_100, r129_101, r129_139, r129_140, am_li0, am_liS, am_laR0, g121_34, g121_35, a151, h.2.1, h1, k1, k2, e1, if_true, if_false, true_and]
    · have e3 : ¬ nI z = nI v := fun q => e ((nI_eq (by omega) (by omega)).mp q)
      have hvr' : v ∈ r := by
        rcases List.mem_cons.mp hvr with q | q
        · exact absurd q.symm e
        · exact q
      have ih := fun c => m_nd_pl (v2 := v2) (Q := Q) hR h hv r (k + 1) c (by omega) (fun i hi => by
        have := hn (i + 1) (by rw [List.length_cons]; omega)
        rw [nthL_s] at this
        rw [← this]
        congr 1; omega) (fun z hz => hm z (List.mem_cons_of_mem _ hz)) hvr'
      have e0 : ∀ n : Nat, nI n + 0 = nI n := fun n => Int32.add_zero _
      rw [if_neg e]
      by_cases ca : R.2.2.1 z = R.2.2.1 v
      · rw [if_pos ca, ← Nat.add_assoc, ← ih (c + 1)]
        rw [ca] at g1
        simp only [r129_86, r129_87, r129_90, r129_93, r129_94, r129_97, r129_99, r129_100, r129_101, r129_104, r129_105, r129_106, r129_109, r129_110, r129_113, r129_115, r129_116, r129_117, r129_118, r129_121, r129_122, r129_123, r129_126, r129_127, r129_131, r129_132, r129_133, r129_136, am_li0, am_liS, am_laR0, g121_31, g121_34, g121_35, a148, a151, h.2.1, h1, k1, k2, e1, e3, z1, z2, v1, v2', g1, g2, nI_1, not_true, if_false, List.length_cons, List.length_nil, List.set_cons_succ, List.set_cons_zero, Nat.reduceAdd, Nat.reduceLT, true_and]
      · rw [if_neg ca, Nat.zero_add, ← ih c]
        simp only [r129_86, r129_87, r129_90, r129_93, r129_94, r129_97, r129_99, r129_100, r129_101, r129_104, r129_105, r129_106, r129_109, r129_110, r129_113, r129_115, r129_116, r129_117, r129_118, r129_121, r129_122, r129_123, r129_130, r129_131, r129_132, r129_133, r129_136, am_li0, am_liS, am_laR0, g121_31, g121_34, g121_35, a148, a151, h.2.1, h1, k1, k2, e1, e3, z1, z2, v1, v2', g1, g2, ca, e0, nI_1, not_false_eq_true, if_true, if_false, List.length_cons, List.length_nil, List.set_cons_succ, List.set_cons_zero, Nat.reduceAdd, Nat.reduceLT, true_and]
theorem m_nodeT {R : Rs} {v j : Nat} {Q : Option Value → am_S → Prop} (h7 : s.2.1 121 28 = 1) (hR : rOk R) (h : mR s R) (ht : thA s R.2.1) (hv : v ∈ R.2.1) (hj : j < 4) : am_Call L xs d 129 [.ref 121, .int (nI v), .int (nI j)] (mk s) Q = Q (some (.int (ndC R v j))) (mk s) := by
  have h36 := hR.1
  have hvu := hR.2.2.1 v hv
  have n1 : ¬ (1 : Int32) = 0 := by decide
  have k0 : ¬ nI v < 0 := nI_pos (by omega)
  have k1 : am_in (nI v) 36 = true := in_of (by omega) (by decide)
  have k2 : (nI v).toNatClampNeg = v := nI_clamp (by omega)
  have k3 : ¬ nI R.1 ≤ nI v := nI_ge hvu (by omega)
  have et : s.1 147 v = 1 := by rw [ht v (by omega), decide_eq_true hv]; rfl
  obtain ⟨e1, e3, e4⟩ := h.2.2.2 v hv
  have ej : j = 0 ∨ j = 1 ∨ j = 2 ∨ j = 3 := by omega
  rcases ej with rfl | rfl | rfl | rfl
  · have c0 : ¬ nI 0 < 0 := by decide
    have c1 : nI 0 ≤ 3 := by decide
    have c2 : ¬ nI 0 = 1 := by decide
    have c3 : nI 0 = 0 := by decide
    simp only [e129, r129_0, r129_1, r129_4, r129_7, r129_8, r129_11, r129_12, r129_13, r129_16, r129_19, r129_20, r129_23, r129_24, r129_25, r129_28, r129_29, r129_32, r129_33, r129_34, r129_40, r129_41, r129_42, r129_45, r129_46, r129_49, r129_50, r129_53, r129_54, r129_55, r129_78, am_li0, am_liS, am_laR0, g121_28, g121_29, g121_30, g121_31, a147, a148, h7, h.1, k0, k1, k2, k3, et, e1, c0, c1, c2, c3, n1, not_true, if_true, if_false, true_and]
    rfl
  · have c0 : ¬ nI 1 < 0 := by decide
    have c1 : nI 1 ≤ 3 := by decide
    have c2 : nI 1 = 1 := by decide
    have r := m_nd_pl (L := L) (xs := xs) (d := d) (v2 := .int (nI 1)) (Q := Q) hR h hv R.2.1 0 0 (by omega) (fun i hi => by rw [Nat.zero_add]) (fun _ hz => hz) hv
    have r : am_Rn L xs d 129 84 [.ref 121, .int (nI v), .int (nI 1), .int 0, .int 0] [] (mk s) Q = _ := r
    rw [Nat.zero_add] at r
    rw [show ndC R v 1 = nI (plL R.2.2.1 (R.2.2.1 v) R.2.1 v) from rfl, ← r]
    have c0' : ¬ (1 : Int32) < 0 := by decide
    have c1' : (1 : Int32) ≤ 3 := by decide
    simp only [e129, r129_0, r129_1, r129_4, r129_7, r129_8, r129_11, r129_12, r129_13, r129_16, r129_19, r129_20, r129_23, r129_24, r129_25, r129_28, r129_29, r129_32, r129_33, r129_34, r129_40, r129_41, r129_42, r129_79, r129_80, r129_81, r129_82, am_li0, am_liS, am_laR0, g121_28, g121_29, g121_30, a147, h7, h.1, k0, k1, k2, k3, et, c2, c0', c1', n1, if_true, if_false, List.length_cons, List.length_nil, List.set_cons_succ, List.set_cons_zero, Nat.reduceAdd, Nat.reduceLT, true_and]
  · have c0 : ¬ nI 2 < 0 := by decide
    have c1 : nI 2 ≤ 3 := by decide
    have c2 : ¬ nI 2 = 1 := by decide
    have c3 : ¬ nI 2 = 0 := by decide
    have c4 : nI 2 = 2 := by decide
    simp only [e129, r129_0, r129_1, r129_4, r129_7, r129_8, r129_11, r129_12, r129_13, r129_16, r129_19, r129_20, r129_23, r129_24, r129_25, r129_28, r129_29, r129_32, r129_33, r129_34, r129_40, r129_41, r129_42, r129_45, r129_46, r129_58, r129_59, r129_60, r129_63, r129_64, r129_67, r129_68, r129_69, r129_78, am_li0, am_liS, am_laR0, g121_28, g121_29, g121_30, g121_32, a147, a149, h7, h.1, k0, k1, k2, k3, et, e3, c0, c1, c2, c3, c4, n1, not_true, not_false_eq_true, if_true, if_false, true_and]
    rfl
  · have c0 : ¬ nI 3 < 0 := by decide
    have c1 : nI 3 ≤ 3 := by decide
    have c2 : ¬ nI 3 = 1 := by decide
    have c3 : ¬ nI 3 = 0 := by decide
    have c4 : ¬ nI 3 = 2 := by decide
    simp only [e129, r129_0, r129_1, r129_4, r129_7, r129_8, r129_11, r129_12, r129_13, r129_16, r129_19, r129_20, r129_23, r129_24, r129_25, r129_28, r129_29, r129_32, r129_33, r129_34, r129_40, r129_41, r129_42, r129_45, r129_46, r129_58, r129_59, r129_60, r129_72, r129_73, r129_76, r129_77, r129_78, am_li0, am_liS, am_laR0, g121_28, g121_29, g121_30, g121_33, a147, a150, h7, h.1, k0, k1, k2, k3, et, e4, c0, c1, c2, c3, c4, n1, not_false_eq_true, if_true, if_false, true_and]
    rfl
theorem m_nodeF {R : Rs} {a b : Int32} {Q : Option Value → am_S → Prop} (h7 : s.2.1 121 28 = 1) (hR : rOk R) (h : mR s R) (ht : thA s R.2.1) (hf : hsB R.2.1 a = false ∨ b < 0 ∨ 4 ≤ b) : am_Call L xs d 129 [.ref 121, .int a, .int b] (mk s) Q = Q (some (.int (-2))) (mk s) := by
  have h36 := hR.1
  have n1 : ¬ (1 : Int32) = 0 := by decide
  by_cases q1 : a < 0
  · simp only [e129, r129_0, r129_1, r129_4, r129_7, r129_8, r129_37, r129_39, am_li0, am_liS, am_laR0, g121_28, h7, q1, n1, if_true, if_false]
  · by_cases q2 : nI R.1 ≤ a
    · simp only [e129, r129_0, r129_1, r129_4, r129_7, r129_8, r129_11, r129_12, r129_13, r129_16, r129_37, r129_39, am_li0, am_liS, am_laR0, g121_28, g121_29, h7, h.1, q1, q2, n1, if_true, if_false]
    · rcases pk_ix a (n := R.1) (by omega) with q | q | ⟨v, hv, rfl⟩
      · exact absurd q q1
      · exact absurd q q2
      · have k1 : am_in (nI v) 36 = true := in_of (by omega) (by decide)
        have k2 : (nI v).toNatClampNeg = v := nI_clamp (by omega)
        have et := ht v (by omega)
        by_cases hm : v ∈ R.2.1
        · rw [decide_eq_true hm] at et
          have et : s.1 147 v = 1 := et
          have hb : b < 0 ∨ 4 ≤ b := hf.resolve_left (by rw [hsB_iff.mpr ⟨v, hm, rfl⟩]; decide)
          by_cases q3 : b < 0
          · simp only [e129, r129_0, r129_1, r129_4, r129_7, r129_8, r129_11, r129_12, r129_13, r129_16, r129_19, r129_20, r129_23, r129_24, r129_25, r129_28, r129_29, r129_37, r129_39, am_li0, am_liS, am_laR0, g121_28, g121_29, g121_30, a147, h7, h.1, q1, q2, q3, k1, k2, et, n1, if_true, if_false, true_and]
          · have q4 : ¬ b ≤ 3 := by
              have c := hb.resolve_left q3
              intro c2
              rw [Int32.le_iff_toInt_le] at c c2
              have e3 : (3 : Int32).toInt = 3 := rfl
              have e4 : (4 : Int32).toInt = 4 := rfl
              omega
            simp only [e129, r129_0, r129_1, r129_4, r129_7, r129_8, r129_11, r129_12, r129_13, r129_16, r129_19, r129_20, r129_23, r129_24, r129_25, r129_28, r129_29, r129_32, r129_33, r129_34, r129_37, r129_39, am_li0, am_liS, am_laR0, g121_28, g121_29, g121_30, a147, h7, h.1, q1, q2, q3, q4, k1, k2, et, n1, if_false, true_and]
        · rw [decide_eq_false hm] at et
          have et : s.1 147 v = 0 := et
          simp only [e129, r129_0, r129_1, r129_4, r129_7, r129_8, r129_11, r129_12, r129_13, r129_16, r129_19, r129_20, r129_23, r129_24, r129_25, r129_37, r129_39, am_li0, am_liS, am_laR0, g121_28, g121_29, g121_30, a147, h7, h.1, q1, q2, k1, k2, et, n1, if_true, if_false, true_and]
theorem ok_node (h : gI s) (a b : Int32) : op_ok L xs 81 129 [.int a, .int b] s gI := by
  have hg := h
  obtain ⟨-, -, h3⟩ := h
  rcases h3 with ⟨r1, r2⟩ | ⟨R, r1, r2, r3, r4, r5, r6⟩
  · exact ⟨-2, s, s, fun Q q => by rw [c_node0 r1]; exact q, fun Q q => by rw [m_node0 r2]; exact q, hg⟩
  · cases hs : hsB R.2.1 a with
    | false => exact ⟨-2, s, s, fun Q q => by rw [c_nodeF (d := 98) r1 r3 r4 (Or.inl hs)]; exact q, fun Q q => by rw [m_nodeF r2 r3 r5 r6 (Or.inl hs)]; exact q, hg⟩
    | true =>
      obtain ⟨v, hv, rfl⟩ := hsB_iff.mp hs
      rcases pk_ix b (n := 4) (by decide) with q | q | ⟨j, hj, rfl⟩
      · exact ⟨-2, s, s, fun Q r => by rw [c_nodeF (d := 98) r1 r3 r4 (Or.inr (Or.inl q))]; exact r, fun Q r => by rw [m_nodeF r2 r3 r5 r6 (Or.inr (Or.inl q))]; exact r, hg⟩
      · exact ⟨-2, s, s, fun Q r => by rw [c_nodeF (d := 98) r1 r3 r4 (Or.inr (Or.inr q))]; exact r, fun Q r => by rw [m_nodeF r2 r3 r5 r6 (Or.inr (Or.inr q))]; exact r, hg⟩
      · exact ⟨ndC R v j, s, s, fun Q r => by rw [c_nodeT (d := 98) r1 r3 r4 hv hj]; exact r, fun Q r => by rw [m_nodeT r2 r3 r5 r6 hv hj]; exact r, hg⟩
end
