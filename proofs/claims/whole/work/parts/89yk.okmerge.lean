/-! merge: both sides -/
theorem mgK_lt {n I : Nat} {l : List Sp} : ∀ {r : List Sp} {S : Mg} {k k' : Nat}, mgK n I l r S k = .inl k' → k' < k + r.length
  | [], S, k, k', h => by
    have h : Sum.inr S = Sum.inl k' := h
    cases h
  | q :: r, S, k, k', h => by
    rw [List.length_cons]
    cases hm : mg1 n I l S q with
    | none =>
      rw [mgK_n hm] at h
      cases h
      omega
    | some S1 =>
      rw [mgK_s hm] at h
      have := mgK_lt h
      omega
def mgF : Nat ⊕ Mg → Int32
  | .inl _ => 0
  | .inr _ => 1
section
variable {L : Nat} {xs : Nat → Int32} {d : Nat} {s : St}
theorem c_merge1 {T : Nat → Tr} {Q : Option Value → am_S → Prop} (hT : tI s T) (h : (T 0).1 = 0 ∨ (T 1).1 = 0 ∨ (T 2).1 = 0) : am_Call L xs (d + 2) 67 [.ref 0] (mk s) Q = Q (some (.int (-1))) (mk s) := by
  have fl : ∀ j, j < 3 → (T j).1 = 0 → ∀ Q : Option Value → am_S → Prop, am_Call L xs (d + 1) 22 [.ref 0, .int (nI j)] (mk s) Q = Q (some (.int 0)) (mk s) := fun j hj e Q => c_isFilled0 (no_c hT (Or.inr ⟨j, hj, rfl, e⟩))
  have ft : ∀ j, j < 3 → ¬ (T j).1 = 0 → ∀ Q : Option Value → am_S → Prop, am_Call L xs (d + 1) 22 [.ref 0, .int (nI j)] (mk s) Q = Q (some (.int 1)) (mk s) := fun j hj e Q => by
    obtain ⟨h1, h2, -⟩ := hT j hj
    have := h1.1
    exact c_isFilled1 hj h2.1 (by omega) (by omega)
  have n1 : ¬ (1 : Int32) = 0 := by decide
  by_cases c0 : (T 0).1 = 0
  · have f0 : ∀ Q : Option Value → am_S → Prop, am_Call L xs (d + 1) 22 [.ref 0, .int 0] (mk s) Q = _ := fl 0 (by omega) c0
    simp only [e67, r67_0, r67_1, r67_2, r67_5, r67_24, r67_25, am_laR0, am_tL, t_oc, f0, if_true, am_okI, am_okR, List.length_cons, List.length_nil, Nat.reduceAdd, Nat.zero_le, Nat.reduceLeDiff, and_true, true_and]
  · have f0 : ∀ Q : Option Value → am_S → Prop, am_Call L xs (d + 1) 22 [.ref 0, .int 0] (mk s) Q = _ := ft 0 (by omega) c0
    by_cases c1 : (T 1).1 = 0
    · have f1 : ∀ Q : Option Value → am_S → Prop, am_Call L xs (d + 1) 22 [.ref 0, .int 1] (mk s) Q = _ := fl 1 (by omega) c1
      simp only [e67, r67_0, r67_1, r67_2, r67_5, r67_8, r67_9, r67_10, r67_13, r67_24, r67_25, am_laR0, am_tL, t_oc, f0, f1, n1, if_true, if_false, am_okI, am_okR, List.length_cons, List.length_nil, Nat.reduceAdd, Nat.zero_le, Nat.reduceLeDiff, and_true, true_and]
    · have f1 : ∀ Q : Option Value → am_S → Prop, am_Call L xs (d + 1) 22 [.ref 0, .int 1] (mk s) Q = _ := ft 1 (by omega) c1
      have f2 : ∀ Q : Option Value → am_S → Prop, am_Call L xs (d + 1) 22 [.ref 0, .int 2] (mk s) Q = _ := fl 2 (by omega) ((h.resolve_left c0).resolve_left c1)
      simp only [e67, r67_0, r67_1, r67_2, r67_5, r67_8, r67_9, r67_10, r67_13, r67_16, r67_17, r67_18, r67_21, r67_24, r67_25, am_laR0, am_tL, t_oc, f0, f1, f2, n1, not_true, if_false, am_okI, am_okR, List.length_cons, List.length_nil, Nat.reduceAdd, Nat.zero_le, Nat.reduceLeDiff, and_true, true_and]
theorem c_mergeT {T : Nat → Tr} {s1 : St} {u : Nat ⊕ Mg} {Q : Option Value → am_S → Prop} (hT : tI s T) (h0 : 0 < (T 0).1) (h1 : 0 < (T 1).1) (h2 : 0 < (T 2).1) (hu : ∀ k, u = .inl k → k < 24) (hr : ∀ Q : Option Value → am_S → Prop, am_Call L xs (d + 46) 68 [.ref 53, .ref 2, .ref 7, .ref 12] (mk s) Q = Q (some (.int (mgU u))) (mk s1)) : am_Call L xs (d + 47) 67 [.ref 0] (mk s) Q = Q (some (.int (mgA u))) (mk (w2 s1 0 7 (mgF u))) := by
  have ft : ∀ j, j < 3 → 0 < (T j).1 → ∀ Q : Option Value → am_S → Prop, am_Call L xs (d + 46) 22 [.ref 0, .int (nI j)] (mk s) Q = Q (some (.int 1)) (mk s) := fun j hj e Q => by
    obtain ⟨h1, h2, -⟩ := hT j hj
    have := h1.1
    exact c_isFilled1 (d := d + 45) hj h2.1 e (by omega)
  have f0 : ∀ Q : Option Value → am_S → Prop, am_Call L xs (d + 46) 22 [.ref 0, .int 0] (mk s) Q = _ := ft 0 (by omega) h0
  have f1 : ∀ Q : Option Value → am_S → Prop, am_Call L xs (d + 46) 22 [.ref 0, .int 1] (mk s) Q = _ := ft 1 (by omega) h1
  have f2 : ∀ Q : Option Value → am_S → Prop, am_Call L xs (d + 46) 22 [.ref 0, .int 2] (mk s) Q = _ := ft 2 (by omega) h2
  have n1 : ¬ (1 : Int32) = 0 := by decide
  have r0 : ∀ f : Nat → Prop, am_ar2 (mk s) 1 0 f = f 2 := fun f => t_tree (j := 0) (by decide)
  have r1 : ∀ f : Nat → Prop, am_ar2 (mk s) 1 1 f = f 7 := fun f => t_tree (j := 1) (by decide)
  have r2 : ∀ f : Nat → Prop, am_ar2 (mk s) 1 2 f = f 12 := fun f => t_tree (j := 2) (by decide)
  have m1 : ((-1 : Int32) = -1) = True := eq_self _
  have S0 : am_Call L xs (d + 47) 67 [.ref 0] (mk s) Q = am_Rn L xs (d + 47) 67 52 [.ref 0, .int (mgU u)] [] (mk s1) Q := by
    simp only [e67, r67_0, r67_1, r67_2, r67_5, r67_8, r67_9, r67_10, r67_13, r67_16, r67_17, r67_18, r67_21, r67_26, r67_27, r67_30, r67_31, r67_34, r67_35, r67_36, r67_37, r67_40, r67_41, r67_42, r67_43, r67_46, r67_47, r67_48, r67_51, am_li0, am_liS, am_laR0, am_laS, am_tL, t_oc, g_oc, g0_0, g0_4, r0, r1, r2, f0, f1, f2, hr, n1, not_false_eq_true, if_true, if_false, am_okI, am_okR, List.length_cons, List.length_nil, List.set_cons_succ, List.set_cons_zero, Nat.reduceAdd, Nat.reduceLT, Nat.zero_le, Nat.reduceLeDiff, and_true, true_and]
  rw [S0]
  cases u with
  | inl k =>
    have hk := hu k rfl
    have e : ¬ nI k = -1 := nI_m1 k (by omega)
    have v7 : ∀ {y o : Nat} {f : am_S → Prop}, am_wf y o (mk s1) 0 0 7 (.int 0) f = f (mk (w2 s1 0 7 0)) := v0_7 (Or.inl rfl)
    show am_Rn L xs (d + 47) 67 52 [.ref 0, .int (nI k)] [] (mk s1) Q = Q (some (.int (nI (k + 1)))) (mk (w2 s1 0 7 0))
    simp only [r67_52, r67_53, r67_54, r67_55, r67_62, r67_63, r67_66, r67_67, r67_68, r67_75, r67_76, r67_77, r67_78, am_li0, am_liS, am_laR0, v7, e, ix1, not_false_eq_true, if_true]
  | inr S =>
    have v7 : ∀ {y o : Nat} {f : am_S → Prop}, am_wf y o (mk s1) 0 0 7 (.int 1) f = f (mk (w2 s1 0 7 1)) := v0_7 (Or.inr rfl)
    show am_Rn L xs (d + 47) 67 52 [.ref 0, .int (-1)] [] (mk s1) Q = Q (some (.int 0)) (mk (w2 s1 0 7 1))
    simp only [r67_52, r67_53, r67_54, r67_55, r67_58, r67_59, r67_63, r67_66, r67_67, r67_68, r67_71, r67_72, r67_78, am_li0, am_liS, am_laR0, v7, m1, not_true, if_false]
theorem ok_merge (h : gI s) : op_ok L xs 67 119 [] s gI := by
  have hg := h
  obtain ⟨⟨T, hT⟩, h2, h3⟩ := h
  obtain ⟨w0, c0, t0⟩ := hT 0 (by omega)
  obtain ⟨wa, c1, t1⟩ := hT 1 (by omega)
  obtain ⟨wb, c2, t2⟩ := hT 2 (by omega)
  have l0 := w0.1
  have l1 := wa.1
  have l2 := wb.1
  by_cases c : (T 0).1 = 0 ∨ (T 1).1 = 0 ∨ (T 2).1 = 0
  · refine ⟨-1, s, s, fun Q q => by rw [c_merge1 (d := 97) hT c]; exact q, fun Q q => ?_, hg⟩
    rw [m_merge1 (d := 99) (j := 0) t0.1 t1.1 l0 l1 (by
      rcases c with c | c | c
      · exact Or.inl c
      · exact Or.inr (Or.inl c)
      · refine Or.inr (Or.inr ?_)
        rw [t2.1, c]; rfl)]
    exact q
  · have p0 : 0 < (T 0).1 := by omega
    have p1 : 0 < (T 1).1 := by omega
    have p2 : 0 < (T 2).1 := by omega
    obtain ⟨s1, H1, H2, M1, M2, X1, X2, a1, a2, ⟨a3, a3'⟩, a4, a5, a6⟩ := c_run (L := L) (xs := xs) (d := 52) c0 c1 c2 w0 wa wb p0 p1 p2
    have hV := mgV_0 (X2 := X2) w0 wa wb p1 p2 a1.2.2.1 a2.2.2.1 (prt_I w0 wa a1.1 a1.2.1) (prt_I w0 wb a2.1 a2.2.1) a1.2.2.2
    have hl2 := (scr_len (X := X2) w0 wb p2 (prt_I w0 wb a2.1 a2.2.1) a2.2.2.1).1
    have hM := fun (s1' : St) (e0 : mT s1' 0 (T 0)) (e1 : mT s1' 1 (T 1)) (e2 : mT s1' 2 (T 2)) => m_mergeT (L := L) (xs := xs) (d := 93) (s := s1') e0 e1 e2 w0 wa wb p0 p1 p2 a1 a2
    generalize hU : mgK (T 0).1 (scI (T 0) (T 1) M1 X1) (scr (T 0) (T 1) M1 X1) (scr (T 0) (T 2) M2 X2) (mgS0 ((scr (T 0) (T 1) M1 X1).foldl doS (trR (T 0)))) 0 = u at a5 a6 hM
    have hu : ∀ k, u = .inl k → k < 24 := fun k e => by
      rw [e] at hU
      have := mgK_lt hU
      omega
    have hok : ∀ S', u = .inr S' → rOk S'.1 := fun S' e => by
      rw [e] at hU
      exact mgK_rOk hV hU
    clear hV hU hl2
    generalize hs2 : w2 s1 0 7 (mgF u) = s2
    have b1 : s2.1 = s1.1 := by rw [← hs2]; rfl
    have b2 : s2.2.1 0 7 = mgF u := by rw [← hs2, w2_a]
    have b3 : ∀ q k, ¬ (q = 0 ∧ k = 7) → s2.2.1 q k = s1.2.1 q k := fun q k n1 => by rw [← hs2, w2_o _ _ n1]
    have mt : ∀ i w, mT s i w → mT s2 i w := fun i w hm => mT_congr (fun q z1 z2 => by rw [b1]; exact a3' q (by omega)) hm
    obtain ⟨s3, d1, d2, d3, d4, d5, d6, d7⟩ := hM s2 (mt 0 _ t0) (mt 1 _ t1) (mt 2 _ t2)
    have fa : ∀ q, q < 55 → s3.1 q = s.1 q := fun q hq => by rw [d3 q (by omega), b1, a3 q hq]
    have fF : ∀ q k, q < 53 → ¬ (q = 0 ∧ k = 7) → s3.2.1 q k = s.2.1 q k := fun q k hq n1 => by rw [d6 q k (by omega), b3 q k n1, a4 q k (by omega)]
    have mt3 : ∀ i w, mT s i w → mT s3 i w := fun i w hm => mT_congr (fun q z1 z2 => d3 q (by omega)) (mt i w hm)
    have f7 : s3.2.1 0 7 = mgF u := by rw [d6 0 7 (by omega)]; exact b2
    refine ⟨mgA u, s2, s3, fun Q q => ?_, fun Q q => ?_, ⟨T, fun i hi => ?_⟩, ?_, ?_⟩
    · have e : am_Call L xs 99 67 [.ref 0] (mk s) Q = Q (some (.int (mgA u))) (mk (w2 s1 0 7 (mgF u))) := c_mergeT (d := 52) hT p0 p1 p2 hu a6
      rw [e, hs2]; exact q
    · have e : am_Call L xs 99 119 [.ref 121] (mk s2) Q = Q (some (.int (mgA u))) (mk s3) := d7 Q
      rw [e]; exact q
    · obtain ⟨g1, g2, g3⟩ := hT i hi
      exact ⟨g1, cT_congr (fun q z1 z2 => fa q (by omega)) (fF _ _ (by omega) (by omega)) g2, mt3 i _ g3⟩
    · refine dK_fr (fun q hq => ?_) (fun t' _ hm => mt3 3 t' hm) ?_ (fun q m q1 q2 q3 q4 => ?_) (fF _ _ (by omega) (by omega)) (fF _ _ (by omega) (by omega)) (fF _ _ (by omega) (by omega)) ?_ h2
      · rw [d3 q (by omega), b1]
        by_cases e : q = 146
        · rw [e]; exact a3' 146 (by omega)
        · exact a3 q (by omega)
      · rw [d4, b1, a3' 138 (by omega)]
      · rw [d5 q m q1 q2 q3 q4, b1, a3' q (by omega)]
      · rw [d6 121 26 (Or.inr rfl), b3 _ _ (by omega), a4 _ _ (by omega)]
    · cases u with
      | inl k => exact Or.inl ⟨f7, d2 k rfl⟩
      | inr S' =>
        obtain ⟨e1, e2, e3⟩ := d1 S' rfl
        exact Or.inr ⟨S'.1, f7, e3, hok S' rfl, cR_congr (fun q z1 z2 => by rw [d3 q (by omega), b1]) (by rw [d6 54 4 (by omega), b3 _ _ (by omega)]) (a5 S' rfl), e1, e2⟩
/-- all thirteen calls -/
theorem all_gI (h : gI s) : all_ok L xs s gI := by
  intro a b c e
  have hT := h.1
  obtain ⟨T, hT⟩ := hT
  exact ⟨op_mono (ok_add hT a b c e) (fun s2 q => gI_5 h q.2 q.1), op_mono (ok_clear hT a) (fun s2 q => gI_5 h q.2 q.1), op_mono (ok_size hT a) (fun s2 q => gI_5 h q.2 q.1), op_mono (ok_height hT a b) (fun s2 q => gI_5 h q.2 q.1), op_mono (ok_alike hT a b c e) (fun s2 q => gI_5 h q.2 q.1), ok_diff h a b, ok_partner h a, ok_step h a b, ok_count h a, ok_replay h a, ok_merge h, ok_node h a b, ok_equal h a⟩
end
