/-! What holds between the calls; diff, partner, step, count, replay -/
theorem rOk_trR {t : Tr} (hw : tW t) : rOk (trR t) := rOk_tr hw
def dK (s : St) : Prop := (s.2.1 0 6 = 0 ∧ s.2.1 121 26 = 0 ∧ s.1 138 1 = 0) ∨ ∃ t w M X, dI s t w M X
def rK (s : St) : Prop := (s.2.1 0 7 = 0 ∧ s.2.1 121 28 = 0) ∨ ∃ R, reI s R
def gI (s : St) : Prop := (∃ T, tI s T) ∧ dK s ∧ rK s
theorem dI_len {s : St} {t w : Tr} {M : Pr} {X : Nat → Bool} (h : dI s t w M X) : (scr t w M X).length ≤ 24 := (scr_len h.2.2.1.1 h.2.2.1.2.1 h.2.2.1.2.2.2 h.2.2.2.2.2.1.2.1 h.2.2.2.2.2.1.1).1
theorem dI_va {s : St} {t w : Tr} {M : Pr} {X : Nat → Bool} (h : dI s t w M X) : vaS (trR t) (scr t w M X) := scrR h.2.2.1.1 h.2.2.1.2.1 h.2.2.1.2.2.2 h.2.2.2.2.2.1.1 h.2.2.2.2.2.1.2.1 h.2.2.2.2.2.1.2.2
theorem dK_fr {s s' : St} (h1 : ∀ q, (19 ≤ q ∧ q ≤ 22) ∨ q = 25 ∨ (38 ≤ q ∧ q ≤ 43) ∨ q = 146 → s'.1 q = s.1 q) (h2 : ∀ t : Tr, t.1 ≤ 12 → mT s 3 t → mT s' 3 t) (h3 : s'.1 138 1 = s.1 138 1) (h3' : ∀ q m, 139 ≤ q → q ≤ 144 → 40 ≤ m → m < 80 → s'.1 q m = s.1 q m) (h4 : s'.2.1 0 6 = s.2.1 0 6) (h5 : s'.2.1 18 4 = s.2.1 18 4) (h6 : s'.2.1 36 1 = s.2.1 36 1) (h7 : s'.2.1 121 26 = s.2.1 121 26) (h : dK s) : dK s' := by
  rcases h with ⟨a, b, c⟩ | ⟨t, w, M, X, hd⟩
  · exact Or.inl ⟨h4.trans a, h7.trans b, h3.trans c⟩
  · have hl := dI_len hd
    obtain ⟨d1, d2, d3, d4, d5, d6, d7, d8, d9⟩ := hd
    refine Or.inr ⟨t, w, M, X, h4.trans d1, h7.trans d2, d3, cT_congr (fun q z1 z2 => h1 q (by omega)) h5 d4, h2 t d3.1.1 d5, d6, fun n hn => by rw [h1 25 (by omega), h1 146 (by omega)]; exact d7 n hn, ⟨h6.trans d8.1, fun k p hk j hj => by rw [h1 _ (by omega)]; exact d8.2 k p hk j hj⟩, ⟨h3.trans d9.1, fun k p hk j hj => ?_⟩⟩
    have hkl : k < (scr t w M X).length := (List.getElem?_eq_some_iff.mp hk).1
    rw [h3' _ _ (by omega) (by omega) (by omega) (by omega)]
    exact d9.2 k p hk j hj
theorem rK_fr {s s' : St} (h1 : ∀ q, (55 ≤ q ∧ q ≤ 58) ∨ (147 ≤ q ∧ q ≤ 151) → s'.1 q = s.1 q) (h2 : s'.2.1 0 7 = s.2.1 0 7) (h3 : s'.2.1 121 28 = s.2.1 121 28) (h4 : s'.2.1 54 4 = s.2.1 54 4) (h5 : s'.2.1 121 29 = s.2.1 121 29) (h6 : s'.2.1 121 35 = s.2.1 121 35) (h : rK s) : rK s' := by
  rcases h with ⟨a, b⟩ | ⟨R, r1, r2, r3, r4, r5, r6⟩
  · exact Or.inl ⟨h2.trans a, h3.trans b⟩
  · exact Or.inr ⟨R, h2.trans r1, h3.trans r2, r3, cR_congr (fun q z1 z2 => h1 q (by omega)) h4 r4, mR_congr (fun q z1 z2 => h1 q (by omega)) h5 h6 r5, thA_congr (h1 147 (by omega)) r6⟩
theorem gI_5 {s s' : St} (h : gI s) (f : fr5 s s') (hT : ∃ T, tI s' T) : gI s' := by
  obtain ⟨-, h2, h3⟩ := h
  refine ⟨hT, dK_fr (fun q hq => f.1 q (by omega) (by omega) (by omega)) f.2.1 (by rw [f.1 138 (by omega) (by omega) (by omega)]) (fun q m q1 q2 _ _ => by rw [f.1 q (by omega) (by omega) (by omega)]) (f.2.2.1 _ _ (by omega) (by omega) (by omega)) (f.2.2.1 _ _ (by omega) (by omega) (by omega)) (f.2.2.1 _ _ (by omega) (by omega) (by omega)) (f.2.2.1 _ _ (by omega) (by omega) (by omega)) h2, rK_fr (fun q hq => f.1 q (by omega) (by omega) (by omega)) (f.2.2.1 _ _ (by omega) (by omega) (by omega)) (f.2.2.1 _ _ (by omega) (by omega) (by omega)) (f.2.2.1 _ _ (by omega) (by omega) (by omega)) (f.2.2.1 _ _ (by omega) (by omega) (by omega)) (f.2.2.1 _ _ (by omega) (by omega) (by omega)) h3⟩
theorem op_mono {L : Nat} {xs : Nat → Int32} {y z : Nat} {as : List Value} {s : St} {J J' : St → Prop} (h : op_ok L xs y z as s J) (hJ : ∀ s2, J s2 → J' s2) : op_ok L xs y z as s J' := by
  obtain ⟨r, s1, s2, h1, h2, h3⟩ := h
  exact ⟨r, s1, s2, h1, h2, hJ s2 h3⟩
section
variable {L : Nat} {xs : Nat → Int32} {s : St}
theorem gI_tree {T : Nat → Tr} (hT : tI s T) (a : Int32) : ((a < 0 ∨ 3 ≤ a) ∨ ∃ j, j < 3 ∧ a = nI j ∧ (T j).1 = 0) ∨ ∃ j, j < 3 ∧ a = nI j ∧ 0 < (T j).1 := by
  rcases tree_or a with q | ⟨j, hj, e⟩
  · exact Or.inl (Or.inl q)
  · by_cases c : (T j).1 = 0
    · exact Or.inl (Or.inr ⟨j, hj, e, c⟩)
    · exact Or.inr ⟨j, hj, e, by omega⟩
theorem no_c {T : Nat → Tr} (hT : tI s T) {a : Int32} (h : (a < 0 ∨ 3 ≤ a) ∨ ∃ j, j < 3 ∧ a = nI j ∧ (T j).1 = 0) : (a < 0 ∨ 3 ≤ a) ∨ ∃ j, j < 3 ∧ a = nI j ∧ s.2.1 (2 + 5 * j) 4 = 0 := by
  rcases h with q | ⟨j, hj, e, c⟩
  · exact Or.inl q
  · refine Or.inr ⟨j, hj, e, ?_⟩
    have := (hT j hj).2.1.1
    rw [c] at this
    exact this
theorem no_m {T : Nat → Tr} (hT : tI s T) {a : Int32} (h : (a < 0 ∨ 3 ≤ a) ∨ ∃ j, j < 3 ∧ a = nI j ∧ (T j).1 = 0) : (a < 0 ∨ 3 ≤ a) ∨ ∃ j, j < 3 ∧ a = nI j ∧ s.1 122 j = 0 := by
  rcases h with q | ⟨j, hj, e, c⟩
  · exact Or.inl q
  · refine Or.inr ⟨j, hj, e, ?_⟩
    have := (hT j hj).2.2.1
    rw [c] at this
    exact this
theorem ok_diff (h : gI s) (a b : Int32) : op_ok L xs 21 93 [.int a, .int b] s gI := by
  have hg := h
  obtain ⟨⟨T, hT⟩, h2, h3⟩ := h
  rcases gI_tree hT a with ha | ⟨j, hj, rfl, ht⟩
  · exact ⟨-1, s, s, fun Q q => by rw [c_diff0 (d := 97) (no_c hT ha)]; exact q, fun Q q => by rw [m_diff0 (d := 98) (no_m hT ha)]; exact q, hg⟩
  · obtain ⟨hw, hc, hm⟩ := hT j hj
    have h12 := hw.1
    rcases gI_tree hT b with hb | ⟨j', hj', rfl, hu⟩
    · exact ⟨-1, s, s, fun Q q => by rw [c_diff1 (d := 97) hj hc.1 ht (by omega) (no_c hT hb)]; exact q, fun Q q => by rw [m_diff1 (d := 97) hj hm.1 ht (by omega) (no_m hT hb)]; exact q, hg⟩
    · obtain ⟨hw', hc', hm'⟩ := hT j' hj'
      obtain ⟨s1, H, M, X, a1, a2, a3, a4, a5⟩ := c_tdiff (L := L) (xs := xs) (d := 53) hj hj' hc hc' hw hw' ht hu
      obtain ⟨e1, e2, e3, e4, e5, e6, e7, e8⟩ := a1
      have m1 : ∀ (i : Nat) (w : Tr), mT s i w → mT s1 i w := fun i w hq => mT_congr (fun q q1 q2 => a4.1 q (by omega)) hq
      obtain ⟨s2, M', X', b1, b2, b3, b4, b5, b6, b7, b8⟩ := m_diff (L := L) (xs := xs) (d := 93) hj hj' hw hw' e1 (m1 j _ hm) (m1 j' _ hm') ht hu
      have eM : M' = M := prt_un b1 e2
      subst eM
      have eX := sT_un b2 e5
      obtain ⟨eS, -⟩ := scr_congr e3 eX
      rw [eS] at b3 b8
      have hd : dI s2 (T j) (T j') M' X := by
        refine ⟨by rw [b7.2.2.1 _ _ (by omega) (by omega) (by omega)]; exact a3, b6, ⟨hw, hw', ht, hu⟩, cT_congr (fun q z1 z2 => b7.1 q (by omega)) (b7.2.2.1 _ _ (by omega) (by omega) (by omega)) a2, b4, ⟨e3, e4, e5⟩, fun n hn => ⟨?_, b5 n hn⟩, ⟨?_, fun k p hk i hi => ?_⟩, b3⟩
        · rw [b7.1 25 (by omega)]; exact (e6 n hn).1
        · rw [b7.2.2.1 _ _ (by omega) (by omega) (by omega)]; exact e7.1
        · rw [b7.1 _ (by omega)]; exact e7.2 k p hk i hi
      refine ⟨nI (scr (T j) (T j') M' X).length, s1, s2, fun Q q => by rw [a5]; exact q, fun Q q => by rw [b8]; exact q, ⟨T, fun i hi => ?_⟩, Or.inr ⟨_, _, _, _, hd⟩, ?_⟩
      · obtain ⟨g1, g2, g3⟩ := hT i hi
        refine ⟨g1, cT_congr (fun q z1 z2 => ?_) ?_ g2, b7.2.1 i _ hi g1.1 (m1 i _ g3)⟩
        · rw [b7.1 q (by omega), a4.1 q (by omega)]
        · rw [b7.2.2.1 _ _ (by omega) (by omega) (by omega), a4.2.1 _ _ (by omega) (by omega) (by omega) (by omega)]
      · refine rK_fr (fun q hq => ?_) ?_ ?_ ?_ ?_ ?_ h3
        · rw [b7.1 q (by omega), a4.1 q (by omega)]
        · rw [b7.2.2.1 _ _ (by omega) (by omega) (by omega), a4.2.1 _ _ (by omega) (by omega) (by omega) (by omega)]
        · rw [b7.2.2.1 _ _ (by omega) (by omega) (by omega), a4.2.1 _ _ (by omega) (by omega) (by omega) (by omega)]
        · rw [b7.2.2.1 _ _ (by omega) (by omega) (by omega), a4.2.1 _ _ (by omega) (by omega) (by omega) (by omega)]
        · rw [b7.2.2.1 _ _ (by omega) (by omega) (by omega), a4.2.1 _ _ (by omega) (by omega) (by omega) (by omega)]
        · rw [b7.2.2.1 _ _ (by omega) (by omega) (by omega), a4.2.1 _ _ (by omega) (by omega) (by omega) (by omega)]
theorem ok_partner (h : gI s) (a : Int32) : op_ok L xs 56 109 [.int a] s gI := by
  have hg := h
  obtain ⟨-, h2, -⟩ := h
  rcases h2 with ⟨d1, d2, -⟩ | ⟨t, w, M, X, d1, d2, d3, d4, d5, d6, d7, d8, d9⟩
  · exact ⟨-1, s, s, fun Q q => by rw [c_partner0 d1]; exact q, fun Q q => by rw [m_partner0 d2]; exact q, hg⟩
  · by_cases c : ∃ i, i < t.1 ∧ a = nI i
    · obtain ⟨n, hn, rfl⟩ := c
      have h12 := d3.1.1
      obtain ⟨g1, g2⟩ := d7 n (by omega)
      exact ⟨oI (M.1 n), s, s, fun Q q => by rw [c_partnerT (d := 98) d1 d4 d3.1 hn g1]; exact q, fun Q q => by rw [m_partnerT d2 d5 d3.1 hn g2]; exact q, hg⟩
    · exact ⟨-1, s, s, fun Q q => by rw [c_partnerF (d := 98) d1 d4 d3.1 c]; exact q, fun Q q => by rw [m_partnerF d2 d5 d3.1 c]; exact q, hg⟩
theorem ok_step (h : gI s) (a b : Int32) : op_ok L xs 57 110 [.int a, .int b] s gI := by
  have hg := h
  obtain ⟨-, h2, -⟩ := h
  rcases h2 with ⟨d1, d2, -⟩ | ⟨t, w, M, X, hd⟩
  · exact ⟨-2, s, s, fun Q q => by rw [c_step0 d1]; exact q, fun Q q => by rw [m_step0 d2]; exact q, hg⟩
  · have hl := dI_len hd
    obtain ⟨d1, d2, d3, d4, d5, d6, d7, d8, d9⟩ := hd
    rcases pk_ix a (n := (scr t w M X).length) (by omega) with q | q | ⟨k, hk, rfl⟩
    · exact ⟨-2, s, s, fun Q r => by rw [c_stepF (d := 98) d1 d8 (Or.inl q)]; exact r, fun Q r => by rw [m_stepF d2 d9 (Or.inl q)]; exact r, hg⟩
    · exact ⟨-2, s, s, fun Q r => by rw [c_stepF (d := 98) d1 d8 (Or.inr (Or.inl q))]; exact r, fun Q r => by rw [m_stepF d2 d9 (Or.inr (Or.inl q))]; exact r, hg⟩
    · rcases pk_ix b (n := 6) (by decide) with q | q | ⟨j, hj, rfl⟩
      · exact ⟨-2, s, s, fun Q r => by rw [c_stepF (d := 98) d1 d8 (Or.inr (Or.inr (Or.inl q)))]; exact r, fun Q r => by rw [m_stepF d2 d9 (Or.inr (Or.inr (Or.inl q)))]; exact r, hg⟩
      · exact ⟨-2, s, s, fun Q r => by rw [c_stepF (d := 98) d1 d8 (Or.inr (Or.inr (Or.inr q)))]; exact r, fun Q r => by rw [m_stepF d2 d9 (Or.inr (Or.inr (Or.inr q)))]; exact r, hg⟩
      · have hg' : (scr t w M X)[k]? = some (scr t w M X)[k] := List.getElem?_eq_getElem hk
        exact ⟨spC (scr t w M X)[k] j, s, s, fun Q r => by rw [c_stepT (d := 98) d1 d8 hl hg' hj]; exact r, fun Q r => by rw [m_stepT d2 d9 hl hg' hj]; exact r, hg⟩
theorem ok_count (h : gI s) (a : Int32) : op_ok L xs 59 111 [.int a] s gI := by
  have hg := h
  obtain ⟨-, h2, -⟩ := h
  rcases h2 with ⟨d1, d2, d3⟩ | ⟨t, w, M, X, hd⟩
  · have hs : msc s 1 [] := ⟨d3, fun k p hk => by cases hk⟩
    exact ⟨0, s, s, fun Q q => by rw [c_count0 d1]; exact q, fun Q q => by rw [m_count hs (by decide)]; exact q, hg⟩
  · have hl := dI_len hd
    obtain ⟨d1, d2, d3, d4, d5, d6, d7, d8, d9⟩ := hd
    exact ⟨nI (knC a (scr t w M X)), s, s, fun Q q => by rw [c_count (d := 98) d1 d8 hl]; exact q, fun Q q => by rw [m_count d9 hl]; exact q, hg⟩
theorem c_replayT {t : Tr} {l : List Sp} {n d : Nat} {R : Rs} (d1 : s.2.1 0 6 = 1) (hw : tW t) (d4 : cT s 18 t) (d8 : sc s 23 l) (hl : l.length ≤ 24) (hv : vaS (trR t) (l.take n)) (hn : n ≤ l.length) (hRe : (l.take n).foldl doS (trR t) = R) (hR : rOk R) :
    ∃ s' : St, cR s' R ∧ s'.2.1 0 7 = 1 ∧ (∀ q, ¬ (54 < q ∧ q < 59) → s'.1 q = s.1 q) ∧ (∀ q k, ¬ (q = 54 ∧ k = 4) → ¬ (q = 0 ∧ k = 7) → s'.2.1 q k = s.2.1 q k) ∧ s'.2.2 = s.2.2 ∧ ∀ Q : Option Value → am_S → Prop, am_Call L xs (d + 4) 61 [.ref 0, .int (nI n)] (mk s) Q = Q (some (.int (nI (lz (inB R.2.1) 36)))) (mk s') := by
  have hE : isE 23 := isE_k (Or.inl rfl)
  have hD : 23 + 24 < 54 ∨ 58 < 23 := Or.inl (by decide)
  obtain ⟨s1, a1, a2, a3⟩ := c_start (L := L) (xs := xs) (d := d + 1) isF_18 (by decide) d4 hw
  obtain ⟨s2, b1, b2, b3⟩ := c_performFirst (L := L) (xs := xs) (d := d) (D := 23) hE hD hl hn (sc_F hD a2 d8) (rOk_trR hw) a1 hv
  rw [hRe] at b1
  have f := frF_t a2 b2
  generalize hs3 : w2 s2 0 7 1 = s3
  have e1 : s3.1 = s2.1 := by rw [← hs3]; rfl
  have e2 : s3.2.1 0 7 = 1 := by rw [← hs3, w2_a]
  have e3 : ∀ q k, ¬ (q = 0 ∧ k = 7) → s3.2.1 q k = s2.2.1 q k := fun q k n1 => by rw [← hs3, w2_o _ _ n1]
  have e4 : s3.2.2 = s2.2.2 := by rw [← hs3]; rfl
  have c3 : cR s3 R := cR_congr (fun q _ _ => by rw [e1]) (e3 _ _ (by omega)) b1
  refine ⟨s3, c3, e2, fun q hq => by rw [e1]; exact f.1 q (by omega), fun q k n1 n2 => by rw [e3 q k n2]; exact f.2.1 q k n1, by rw [e4]; exact f.2.2, fun Q => ?_⟩
  have n1 : ¬ (1 : Int32) = 0 := by decide
  have k0 : ¬ nI n < 0 := nI_pos (by omega)
  have k1 : nI n ≤ nI l.length := nI_le hn (by omega)
  have el : s.2.1 (23 + 13) 1 = nI l.length := d8.1
  have ct : ∀ Q : Option Value → am_S → Prop, am_Call L xs (d + 3) 66 [.ref 54] (mk s3) Q = Q (some (.int (nI (lz (inB R.2.1) 36)))) (mk s3) := fun Q => c_countThere hR c3
  have v7 : ∀ {y o : Nat} {f : am_S → Prop}, am_wf y o (mk s2) 0 0 7 (.int 1) f = f (mk s3) := fun {y o f} => by rw [← hs3]; exact v0_7 (Or.inr rfl)
  simp only [e61, r61_0, r61_1, r61_4, r61_7, r61_8, r61_11, r61_12, r61_13, r61_16, r61_19, r61_22, r61_27, r61_28, r61_31, r61_32, r61_35, r61_38, r61_39, r61_42, r61_45, r61_46, r61_47, r61_50, r61_53, r61_54, r61_55, r61_58, r61_59, r61_62, r61_65, am_li0, am_liS, am_laR0, am_laS, am_tL, am_tN, g0_2, g0_3, g0_5, g0_6, d1, d_1 hE.1, s_1 hE, s_oc hE, f_oc isF_54, el, k0, k1, n1, a3, b3, v7, ct, if_true, if_false, am_okI, am_okR, List.length_cons, List.length_nil, Nat.reduceAdd, Nat.zero_le, Nat.reduceLeDiff, and_true, true_and]
theorem m_replayT {t : Tr} {l : List Sp} {n d : Nat} (h26 : s.2.1 121 26 = 1) (hw : tW t) (hT : mT s 3 t) (hs : msc s 1 l) (hl : l.length ≤ 24) (hv : vaS (trR t) l) (hn : n ≤ l.length) :
    ∃ s' : St, mR s' ((l.take n).foldl doS (trR t)) ∧ thA s' ((l.take n).foldl doS (trR t)).2.1 ∧ s'.2.1 121 28 = 1 ∧ (∀ q, ¬ (147 ≤ q ∧ q ≤ 151) → s'.1 q = s.1 q) ∧ (∀ q k, ¬ (q = 121 ∧ k = 29) → ¬ (q = 121 ∧ k = 35) → ¬ (q = 121 ∧ k = 28) → s'.2.1 q k = s.2.1 q k) ∧ s'.2.2 = s.2.2 ∧ ∀ Q : Option Value → am_S → Prop, am_Call L xs (d + 3) 112 [.ref 121, .int (nI n)] (mk s) Q = Q (some (.int (nI (lz (inB ((l.take n).foldl doS (trR t)).2.1) 36)))) (mk s') := by
  obtain ⟨s1, a1, a2, a3, a4⟩ := m_begin (L := L) (xs := xs) (d := d + 2) (j := 3) (by omega) hw hT
  obtain ⟨s2, b1, b2, b3, b4⟩ := m_rp_loop (L := L) (xs := xs) (d := d) hl hn n 0 s1 (trR t) rfl (Nat.zero_le _) (msc_E a3 hs) (rOk_trR hw) a1 a2 (vaS_take n _ _ hv)
  rw [List.drop_zero] at b1 b2
  have f := frE_t a3 b3
  refine ⟨w2 s2 121 28 1, mR_congr (fun q _ _ => rfl) (w2_o _ _ (by omega)) (w2_o _ _ (by omega)) b1, b2, w2_a _ _ _ _, fun q hq => by rw [w2_1]; exact f.1 q hq, fun q k n1 n2 n3 => by rw [w2_o _ _ n3]; exact f.2.1 q k n1 n2, by rw [w2_g]; exact f.2.2, fun Q => ?_⟩
  have n1 : ¬ (1 : Int32) = 0 := by decide
  have z1 : am_in 1 4 = true := by decide
  have z2 : (1 : Int32).toNatClampNeg = 1 := rfl
  have k0 : ¬ nI n < 0 := nI_pos (by omega)
  have k1 : nI n ≤ nI l.length := nI_le hn (by omega)
  have a4 : ∀ Q : Option Value → am_S → Prop, am_Call L xs (d + 2) 113 [.ref 121, .int 3] (mk s) Q = Q none (mk s1) := a4
  have b4 : am_Rn L xs (d + 3) 112 31 [.ref 121, .int (nI n), .int 40] [] (mk s1) Q = _ := b4 Q
  have nd : ∀ Q : Option Value → am_S → Prop, am_Call L xs (d + 2) 118 [.ref 121] (mk (w2 s2 121 28 1)) Q = _ := fun Q => m_nodes (d := d + 2) (s := w2 s2 121 28 1) b2
  simp only [e112, r112_0, r112_1, r112_4, r112_7, r112_8, r112_11, r112_12, r112_13, r112_16, r112_17, r112_18, r112_23, r112_24, r112_25, r112_28, r112_30, am_li0, am_liS, am_laR0, am_tN, m_oc, g121_18, g121_26, a138, h26, hs.1, z1, z2, k0, k1, n1, a4, if_true, if_false, am_okI, am_okR, List.length_cons, List.length_nil, List.set_cons_succ, List.set_cons_zero, Nat.reduceAdd, Nat.reduceLT, Nat.zero_le, Nat.reduceLeDiff, and_true, true_and]
  rw [b4]
  simp only [r112_68, r112_69, r112_70, r112_73, r112_74, r112_77, am_laR0, am_tL, m_oc, v121_28', nd, am_okI, am_okR, List.length_cons, List.length_nil, Nat.reduceAdd, Nat.zero_le, Nat.reduceLeDiff, and_true, true_and]
theorem c_replayF {l : List Sp} {a : Int32} {d : Nat} {Q : Option Value → am_S → Prop} (h6 : s.2.1 0 6 = 1) (hs : sc s 23 l) (h : a < 0 ∨ ¬ a ≤ nI l.length) : am_Call L xs d 61 [.ref 0, .int a] (mk s) Q = Q (some (.int (-1))) (mk s) := by
  have hE : isE 23 := isE_k (Or.inl rfl)
  have n1 : ¬ (1 : Int32) = 0 := by decide
  have el : s.2.1 (23 + 13) 1 = nI l.length := hs.1
  by_cases c : a < 0
  · simp only [e61, r61_0, r61_1, r61_4, r61_7, r61_8, r61_25, r61_26, am_li0, am_liS, am_laR0, g0_6, h6, c, n1, if_true, if_false]
  · have c2 : ¬ a ≤ nI l.length := h.resolve_left c
    simp only [e61, r61_0, r61_1, r61_4, r61_7, r61_8, r61_11, r61_12, r61_13, r61_16, r61_19, r61_22, r61_25, r61_26, am_li0, am_liS, am_laR0, g0_3, g0_6, h6, d_1 hE.1, s_1 hE, el, c, c2, n1, if_false]
theorem m_replayF {l : List Sp} {a : Int32} {d : Nat} {Q : Option Value → am_S → Prop} (h6 : s.2.1 121 26 = 1) (hs : msc s 1 l) (h : a < 0 ∨ ¬ a ≤ nI l.length) : am_Call L xs d 112 [.ref 121, .int a] (mk s) Q = Q (some (.int (-1))) (mk s) := by
  have n1 : ¬ (1 : Int32) = 0 := by decide
  have z1 : am_in 1 4 = true := by decide
  have z2 : (1 : Int32).toNatClampNeg = 1 := rfl
  by_cases c : a < 0
  · simp only [e112, r112_0, r112_1, r112_4, r112_7, r112_8, r112_21, r112_22, am_li0, am_liS, am_laR0, g121_26, h6, c, n1, if_true, if_false]
  · have c2 : ¬ a ≤ nI l.length := h.resolve_left c
    simp only [e112, r112_0, r112_1, r112_4, r112_7, r112_8, r112_11, r112_12, r112_13, r112_16, r112_17, r112_18, r112_21, r112_22, am_li0, am_liS, am_laR0, g121_18, g121_26, a138, h6, hs.1, z1, z2, c, c2, n1, if_false, true_and]
theorem ok_replay (h : gI s) (a : Int32) : op_ok L xs 61 112 [.int a] s gI := by
  have hg := h
  obtain ⟨⟨T, hT⟩, h2, h3⟩ := h
  rcases h2 with ⟨d1, d2, d3⟩ | ⟨t, w, M, X, hd⟩
  · exact ⟨-1, s, s, fun Q q => by rw [c_replay0 d1]; exact q, fun Q q => by rw [m_replay0 d2]; exact q, hg⟩
  · have hd' := hd
    have hl := dI_len hd
    have hv := dI_va hd
    obtain ⟨d1, d2, d3, d4, d5, d6, d7, d8, d9⟩ := hd
    rcases pk_ix a (n := (scr t w M X).length + 1) (by omega) with q | q | ⟨n, hn, rfl⟩
    · exact ⟨-1, s, s, fun Q r => by rw [c_replayF d1 d8 (Or.inl q)]; exact r, fun Q r => by rw [m_replayF d2 d9 (Or.inl q)]; exact r, hg⟩
    · have q : nI ((scr t w M X).length + 1) ≤ a := q
      have c : ¬ a ≤ nI (scr t w M X).length := fun c => by
        rw [Int32.le_iff_toInt_le] at q c
        rw [nI_toInt (by omega)] at q c
        omega
      exact ⟨-1, s, s, fun Q r => by rw [c_replayF d1 d8 (Or.inr c)]; exact r, fun Q r => by rw [m_replayF d2 d9 (Or.inr c)]; exact r, hg⟩
    · have hvt := vaS_take n _ _ hv
      have hR := rOk_run _ _ (rOk_trR d3.1) hvt
      generalize hRe : ((scr t w M X).take n).foldl doS (trR t) = R at hR
      obtain ⟨s1, a1, a2, a3, a4, a5, a6⟩ := c_replayT (L := L) (xs := xs) (n := n) (d := 95) d1 d3.1 d4 d8 hl hvt (by omega) hRe hR
      obtain ⟨s2, b1, b2, b3, b4, b5, b6, b7⟩ := m_replayT (L := L) (xs := xs) (s := s1) (t := t) (l := scr t w M X) (n := n) (d := 96) (by rw [a4 _ _ (by omega) (by omega)]; exact d2) d3.1 (mT_congr (fun q z1 z2 => a3 q (by omega)) d5) ⟨by rw [a3 138 (by omega)]; exact d9.1, fun k p hk j hj => by rw [a3 _ (by omega)]; exact d9.2 k p hk j hj⟩ hl hv (by omega)
      rw [hRe] at b1 b2 b7
      have fq : ∀ q, ¬ (54 < q ∧ q < 59) → ¬ (147 ≤ q ∧ q ≤ 151) → s2.1 q = s.1 q := fun q n1 n2 => (b4 q n2).trans (a3 q n1)
      have fF : ∀ q k, ¬ (q = 54 ∧ k = 4) → ¬ (q = 0 ∧ k = 7) → ¬ (q = 121 ∧ k = 29) → ¬ (q = 121 ∧ k = 35) → ¬ (q = 121 ∧ k = 28) → s2.2.1 q k = s.2.1 q k := fun q k n1 n2 n3 n4 n5 => (b5 q k n3 n4 n5).trans (a4 q k n1 n2)
      refine ⟨nI (lz (inB R.2.1) 36), s1, s2, fun Q q => by rw [a6]; exact q, fun Q q => by rw [b7]; exact q, ⟨T, fun i hi => ?_⟩, ?_, Or.inr ⟨_, ?_, b3, hR, cR_congr (fun q z1 z2 => b4 q (by omega)) (b5 _ _ (by omega) (by omega) (by omega)) a1, b1, b2⟩⟩
      · obtain ⟨g1, g2, g3⟩ := hT i hi
        exact ⟨g1, cT_congr (fun q z1 z2 => fq q (by omega) (by omega)) (fF _ _ (by omega) (by omega) (by omega) (by omega) (by omega)) g2, mT_congr (fun q z1 z2 => fq q (by omega) (by omega)) g3⟩
      · exact dK_fr (fun q hq => fq q (by omega) (by omega)) (fun t' _ hm => mT_congr (fun q z1 z2 => fq q (by omega) (by omega)) hm) (by rw [fq 138 (by omega) (by omega)]) (fun q m q1 q2 _ _ => by rw [fq q (by omega) (by omega)]) (fF _ _ (by omega) (by omega) (by omega) (by omega) (by omega)) (fF _ _ (by omega) (by omega) (by omega) (by omega) (by omega)) (fF _ _ (by omega) (by omega) (by omega) (by omega) (by omega)) (fF _ _ (by omega) (by omega) (by omega) (by omega) (by omega)) (Or.inr ⟨t, w, M, X, hd'⟩)
      · rw [b5 _ _ (by omega) (by omega) (by omega)]; exact a2
end
