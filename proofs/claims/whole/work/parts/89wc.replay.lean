/-! replay -/
/-- who is in the line -/
def inB (l : List Nat) (n : Nat) : Bool := decide (n ∈ l)
theorem lz_stay {P : Nat → Bool} {u : Nat} (h : ∀ n, u ≤ n → P n = false) : ∀ m, lz P (u + m) = lz P u
  | 0 => rfl
  | m + 1 => by rw [← Nat.add_assoc, lz_s, lz_stay h m, if_neg (by rw [h (u + m) (by omega)]; decide)]; rfl
section
variable {L : Nat} {xs : Nat → Int32} {d : Nat}
theorem c_ct_loop {s : St} {R : Rs} (hR : rOk R) (h : cR s R) {Q : Option Value → am_S → Prop} : ∀ (m i : Nat), R.1 - i = m → i ≤ R.1 →
    am_Rn L xs d 66 4 [.ref 54, .int (nI (lz (inB R.2.1) i)), .int (nI i)] [] (mk s) Q = Q (some (.int (nI (lz (inB R.2.1) R.1)))) (mk s)
  | 0, i, hm, hi => by
    have h36 := hR.1
    have e : i = R.1 := by omega
    subst e
    have h1 : nI R.1 ≤ nI R.1 := nI_le (Nat.le_refl _) (by omega)
    rw [r66_4]
    simp only [r66_5, r66_6, r66_9, r66_32, r66_33, am_li0, am_liS, am_laR0, f_used isF_54, h.1, h1, if_true]
  | m + 1, i, hm, hi => by
    have h36 := hR.1
    have h1 : ¬ nI R.1 ≤ nI i := nI_ge (by omega) (by omega)
    have i1 : am_in (nI i) 36 = true := in_of (by omega) (by decide)
    have i2 : (nI i).toNatClampNeg = i := nI_clamp (by omega)
    have ht := cR_th hR h (show i < 36 by omega)
    rw [← c_ct_loop hR h (Q := Q) m (i + 1) (by omega) (by omega), lz_s, r66_4]
    by_cases c : i ∈ R.2.1
    · have c1 : inB R.2.1 i = true := decide_eq_true c
      have c2 : ¬ s.1 (54 + 1) i = -2 := fun q => ht.mp q c
      rw [if_pos c1]
      simp only [r66_5, r66_6, r66_9, r66_12, r66_13, r66_16, r66_17, r66_18, r66_20, r66_23, r66_26, r66_29, am_li0, am_liS, am_laR0, f_used isF_54, f_par isF_54, fa_par isF_54, h.1, h1, i1, i2, c2, nI_1, if_false, List.length_cons, List.length_nil, List.set_cons_succ, List.set_cons_zero, Nat.reduceAdd, Nat.reduceLT, true_and]
    · have c1 : ¬ inB R.2.1 i = true := fun q => c (of_decide_eq_true q)
      have c2 : s.1 (54 + 1) i = -2 := ht.mpr c
      rw [if_neg c1]
      simp only [r66_5, r66_6, r66_9, r66_12, r66_13, r66_16, r66_17, r66_18, r66_20, r66_26, r66_29, am_li0, am_liS, am_laR0, f_used isF_54, f_par isF_54, fa_par isF_54, h.1, h1, i1, i2, c2, nI_1, Nat.add_zero, if_true, if_false, List.length_cons, List.length_nil, List.set_cons_succ, List.set_cons_zero, Nat.reduceAdd, Nat.reduceLT, true_and]
theorem c_countThere {s : St} {R : Rs} (hR : rOk R) (h : cR s R) {Q : Option Value → am_S → Prop} : am_Call L xs d 66 [.ref 54] (mk s) Q = Q (some (.int (nI (lz (inB R.2.1) 36)))) (mk s) := by
  have h36 := hR.1
  have e := lz_stay (P := inB R.2.1) (u := R.1) (fun n hn => decide_eq_false fun q => by have := hR.2.2.1 n q; omega) (36 - R.1)
  rw [show R.1 + (36 - R.1) = 36 by omega] at e
  have r := c_ct_loop (L := L) (xs := xs) (d := d) hR h (Q := Q) R.1 0 rfl (Nat.zero_le _)
  have r : am_Rn L xs d 66 4 [.ref 54, .int 0, .int 0] [] (mk s) Q = _ := r
  rw [e, ← r]
  simp only [e66, r66_0, r66_1, r66_2, r66_3, List.length_cons, List.length_nil, List.set_cons_succ, List.set_cons_zero, Nat.reduceAdd, Nat.reduceLT, true_and]
theorem m_nd_loop {s : St} {l : List Nat} (h : thA s l) {Q : Option Value → am_S → Prop} : ∀ (m i : Nat), 36 - i = m → i ≤ 36 →
    am_Rn L xs d 118 4 [.ref 121, .int (nI (lz (inB l) i)), .int (nI i)] [] (mk s) Q = Q (some (.int (nI (lz (inB l) 36)))) (mk s)
  | 0, i, hm, hi => by
    have e : i = 36 := by omega
    subst e
    have h1 : (36 : Int32) ≤ nI 36 := by decide
    rw [r118_4]
    simp only [r118_5, r118_7, r118_33, r118_34, am_li0, am_liS, h1, if_true]
  | m + 1, i, hm, hi => by
    have h1 : ¬ (36 : Int32) ≤ nI i := nI_ge (b := 36) (by omega) (by decide)
    have i1 : am_in (nI i) 36 = true := in_of (by omega) (by decide)
    have i2 : (nI i).toNatClampNeg = i := nI_clamp (by omega)
    have e1 := h i (by omega)
    rw [← m_nd_loop h (Q := Q) m (i + 1) (by omega) (by omega), lz_s, r118_4]
    by_cases c : i ∈ l
    · have c1 : inB l i = true := decide_eq_true c
      rw [decide_eq_true c] at e1
      have n1 : ¬ bI true = 0 := by decide
      rw [if_pos c1]
      simp only [r118_5, r118_7, r118_10, r118_11, r118_12, r118_15, r118_16, r118_17, r118_20, r118_21, r118_25, r118_26, r118_27, r118_30, am_li0, am_liS, am_laR0, g121_30, a147, h1, i1, i2, e1, n1, nI_1, if_false, List.length_cons, List.length_nil, List.set_cons_succ, List.set_cons_zero, Nat.reduceAdd, Nat.reduceLT, true_and]
    · have c1 : ¬ inB l i = true := fun q => c (of_decide_eq_true q)
      rw [decide_eq_false c] at e1
      have n1 : bI false = 0 := rfl
      have e0 : ∀ n : Nat, nI n + 0 = nI n := fun n => Int32.add_zero _
      rw [if_neg c1]
      simp only [r118_5, r118_7, r118_10, r118_11, r118_12, r118_15, r118_16, r118_17, r118_24, r118_25, r118_26, r118_27, r118_30, am_li0, am_liS, am_laR0, g121_30, a147, h1, i1, i2, e1, n1, e0, nI_1, Nat.add_zero, if_true, if_false, List.length_cons, List.length_nil, List.set_cons_succ, List.set_cons_zero, Nat.reduceAdd, Nat.reduceLT, true_and]
theorem m_nodes {s : St} {l : List Nat} (h : thA s l) {Q : Option Value → am_S → Prop} : am_Call L xs d 118 [.ref 121] (mk s) Q = Q (some (.int (nI (lz (inB l) 36)))) (mk s) := by
  have r := m_nd_loop (L := L) (xs := xs) (d := d) h (Q := Q) 36 0 rfl (by omega)
  have r : am_Rn L xs d 118 4 [.ref 121, .int 0, .int 0] [] (mk s) Q = _ := r
  rw [← r]
  simp only [e118, r118_0, r118_1, r118_2, r118_3, List.length_cons, List.length_nil, List.set_cons_succ, List.set_cons_zero, Nat.reduceAdd, Nat.reduceLT, true_and]
/-- begin: none is there -/
theorem m_bg_fill {v1 : Value} : ∀ (m i : Nat) (s : St), 36 - i = m → i ≤ 36 → (∀ x, x < i → s.1 147 x = 0) →
    ∃ s' : St, (∀ x, x < 36 → s'.1 147 x = 0) ∧ (∀ q, q ≠ 147 → s'.1 q = s.1 q) ∧ s'.2 = s.2 ∧ ∀ Q : Option Value → am_S → Prop, am_Rn L xs d 113 2 [.ref 121, v1, .int (nI i)] [] (mk s) Q = am_Rn L xs d 113 21 [.ref 121, v1, .int (nI 36)] [] (mk s') Q
  | 0, i, s, hm, hi, h0 => by
    have e : i = 36 := by omega
    subst e
    refine ⟨s, h0, fun _ _ => rfl, rfl, fun Q => ?_⟩
    have h1 : (36 : Int32) ≤ nI 36 := by decide
    rw [r113_2]
    simp only [r113_3, r113_5, am_li0, am_liS, h1, if_true]
  | m + 1, i, s, hm, hi, h0 => by
    have h1 : ¬ (36 : Int32) ≤ nI i := nI_ge (b := 36) (by omega) (by decide)
    have i1 : am_in (nI i) 36 = true := in_of (by omega) (by decide)
    have i2 : (nI i).toNatClampNeg = i := nI_clamp (by omega)
    obtain ⟨s', q1, q2, q3, q4⟩ := m_bg_fill (v1 := v1) m (i + 1) (w1 s 147 i 0) (by omega) (by omega) (fun x hx => by
      by_cases e : x = i
      · rw [e, w1_a]
      · rw [w1_n _ _ _ e]; exact h0 x (by omega))
    refine ⟨s', q1, fun q hq => (q2 q hq).trans (w1_o _ _ _ hq), q3, fun Q => ?_⟩
    have nb0 : vp_nar .boolean 0 = 0 := rfl
    rw [← q4 Q, r113_2]
    simp only [r113_3, r113_5, r113_8, r113_9, r113_12, r113_13, r113_14, r113_15, r113_18, am_li0, am_liS, am_laR0, g121_30, w147', h1, i1, i2, nb0, nI_1, if_false, List.length_cons, List.length_nil, List.set_cons_succ, List.set_cons_zero, Nat.reduceAdd, Nat.reduceLT, true_and]
/-- the first k nodes of the tree are in line -/
def bgA (t : Tr) (k : Nat) (s : St) : Prop := (∀ n, n < 36 → s.1 147 n = bI (decide (n < k))) ∧ ∀ n, n < k → s.1 151 n = nI n ∧ s.1 148 n = t.2.1 n ∧ s.1 149 n = t.2.2.1 n ∧ s.1 150 n = t.2.2.2 n
def frB (s s' : St) : Prop := (∀ q, ¬ (147 ≤ q ∧ q ≤ 151) → s'.1 q = s.1 q) ∧ s'.2 = s.2
theorem m_bg_loop {j : Nat} {t : Tr} (hj : j < 4) (hw : tW t) : ∀ (m k : Nat) (s : St), t.1 - k = m → k ≤ t.1 → mT s j t → bgA t k s →
    ∃ s' : St, bgA t t.1 s' ∧ frB s s' ∧ ∀ Q : Option Value → am_S → Prop, am_Rn L xs d 113 43 [.ref 121, .int (nI j), .int (nI k)] [] (mk s) Q = Q none (mk s')
  | 0, k, s, hm, hk, hT, hA => by
    have h12 := hw.1
    have e : k = t.1 := by omega
    subst e
    refine ⟨s, hA, ⟨fun _ _ => rfl, rfl⟩, fun Q => ?_⟩
    have h1 : nI t.1 ≤ nI t.1 := nI_le (Nat.le_refl _) (by omega)
    have j1 : am_in (nI j) 4 = true := in_of hj (by decide)
    have j2 : (nI j).toNatClampNeg = j := nI_clamp (by omega)
    rw [r113_43]
    simp only [r113_44, r113_45, r113_48, r113_49, r113_50, r113_124, am_li0, am_liS, am_laR0, g121_0, a122, j1, j2, hT.1, h1, if_true, true_and]
  | m + 1, k, s, hm, hk, hT, hA => by
    have h12 := hw.1
    have h1 : ¬ nI t.1 ≤ nI k := nI_ge (by omega) (by omega)
    have j1 : am_in (nI j) 4 = true := in_of hj (by decide)
    have j2 : (nI j).toNatClampNeg = j := nI_clamp (by omega)
    have k1 : am_in (nI k) 36 = true := in_of (by omega) (by decide)
    have k2 : (nI k).toNatClampNeg = k := nI_clamp (by omega)
    have z1 : am_in (nI (12 * j + k)) 48 = true := in_of (by omega) (by decide)
    have z2 : (nI (12 * j + k)).toNatClampNeg = 12 * j + k := nI_clamp (by omega)
    obtain ⟨g1, g2, g3⟩ := hT.2 k (by omega)
    generalize hs1 : w1 (w1 (w1 (w1 (w1 s 147 k 1) 148 k (t.2.1 k)) 149 k (t.2.2.1 k)) 150 k (t.2.2.2 k)) 151 k (nI k) = s1
    have a1 : s1.1 147 = upd (s.1 147) k 1 := by rw [← hs1, w1_o _ _ _ (by omega), w1_o _ _ _ (by omega), w1_o _ _ _ (by omega), w1_o _ _ _ (by omega), w1_q]
    have a2 : s1.1 148 = upd (s.1 148) k (t.2.1 k) := by rw [← hs1, w1_o _ _ _ (by omega), w1_o _ _ _ (by omega), w1_o _ _ _ (by omega), w1_q, w1_o _ _ _ (by omega)]
    have a3 : s1.1 149 = upd (s.1 149) k (t.2.2.1 k) := by rw [← hs1, w1_o _ _ _ (by omega), w1_o _ _ _ (by omega), w1_q, w1_o _ _ _ (by omega), w1_o _ _ _ (by omega)]
    have a4 : s1.1 150 = upd (s.1 150) k (t.2.2.2 k) := by rw [← hs1, w1_o _ _ _ (by omega), w1_q, w1_o _ _ _ (by omega), w1_o _ _ _ (by omega), w1_o _ _ _ (by omega)]
    have a5 : s1.1 151 = upd (s.1 151) k (nI k) := by rw [← hs1, w1_q, w1_o _ _ _ (by omega), w1_o _ _ _ (by omega), w1_o _ _ _ (by omega), w1_o _ _ _ (by omega)]
    have a6 : ∀ q, ¬ (147 ≤ q ∧ q ≤ 151) → s1.1 q = s.1 q := fun q hq => by rw [← hs1, w1_o _ _ _ (by omega), w1_o _ _ _ (by omega), w1_o _ _ _ (by omega), w1_o _ _ _ (by omega), w1_o _ _ _ (by omega)]
    have a7 : s1.2 = s.2 := by rw [← hs1]; rfl
    obtain ⟨s', b1, b2, b3⟩ := m_bg_loop hj hw m (k + 1) s1 (by omega) (by omega) (mT_congr (fun q q1 q2 => a6 q (by omega)) hT) ⟨fun n hn => by
        rw [a1]
        by_cases e : n = k
        · rw [e, upd_s, decide_eq_true (show k < k + 1 by omega)]; rfl
        · rw [upd_n _ _ e, hA.1 n hn]
          congr 1
          rw [decide_eq_decide]; omega, fun n hn => by
        rw [a2, a3, a4, a5]
        by_cases e : n = k
        · rw [e, upd_s, upd_s, upd_s, upd_s]; exact ⟨rfl, rfl, rfl, rfl⟩
        · rw [upd_n _ _ e, upd_n _ _ e, upd_n _ _ e, upd_n _ _ e]; exact hA.2 n (by omega)⟩
    refine ⟨s', b1, ⟨fun q hq => (b2.1 q hq).trans (a6 q hq), b2.2.trans a7⟩, fun Q => ?_⟩
    have nb1 : vp_nar .boolean 1 = 1 := rfl
    have o1 : ∀ (n : Nat) (x : Int32), (w1 s 147 n x).1 123 = s.1 123 := fun n x => w1_o s n x (by omega)
    have o2 : ∀ (s : St) (n : Nat) (x : Int32), (w1 s 148 n x).1 124 = s.1 124 := fun s n x => w1_o s n x (by omega)
    have o3 : ∀ (n : Nat) (x : Int32), (w1 s 147 n x).1 124 = s.1 124 := fun n x => w1_o s n x (by omega)
    have o4 : ∀ (s : St) (n : Nat) (x : Int32), (w1 s 149 n x).1 125 = s.1 125 := fun s n x => w1_o s n x (by omega)
    have o5 : ∀ (s : St) (n : Nat) (x : Int32), (w1 s 148 n x).1 125 = s.1 125 := fun s n x => w1_o s n x (by omega)
    have o6 : ∀ (n : Nat) (x : Int32), (w1 s 147 n x).1 125 = s.1 125 := fun n x => w1_o s n x (by omega)
    rw [← b3 Q, r113_43]
    simp only [r113_44, r113_45, r113_48, r113_49, r113_50, r113_53, r113_54, r113_57, r113_58, r113_59, r113_60, r113_61, r113_64, r113_65, r113_66, r113_69, r113_71, r113_72, r113_73, r113_74, r113_75, r113_76, r113_77, r113_78, r113_81, r113_82, r113_83, r113_86, r113_88, r113_89, r113_90, r113_91, r113_92, r113_93, r113_94, r113_95, r113_98, r113_99, r113_100, r113_103, r113_105, r113_106, r113_107, r113_108, r113_109, r113_110, r113_111, r113_112, r113_115, r113_116, r113_117, r113_118, r113_121, am_li0, am_liS, am_laR0, g121_0, g121_1, g121_2, g121_3, g121_30, g121_31, g121_32, g121_33, g121_34, a122, a123, a124, a125, w147', w148', w149', w150', w151', j1, j2, hT.1, h1, k1, k2, ix12, z1, z2, o1, o2, o3, o4, o5, o6, g1, g2, g3, nb1, hs1, nI_1, if_false, List.length_cons, List.length_nil, List.set_cons_succ, List.set_cons_zero, Nat.reduceAdd, Nat.reduceLT, true_and]
theorem nthL_range {n k : Nat} (h : k < n) : nthL (List.range n) k = k := by
  unfold nthL
  rw [List.getElem?_range h]; rfl
theorem m_begin {s : St} {j : Nat} {t : Tr} (hj : j < 4) (hw : tW t) (hT : mT s j t) :
    ∃ s' : St, mR s' (trR t) ∧ thA s' (trR t).2.1 ∧ frE s s' ∧ ∀ Q : Option Value → am_S → Prop, am_Call L xs d 113 [.ref 121, .int (nI j)] (mk s) Q = Q none (mk s') := by
  have h12 := hw.1
  obtain ⟨s1, a1, a2, a3, a4⟩ := m_bg_fill (L := L) (xs := xs) (d := d) (v1 := .int (nI j)) 36 0 s rfl (by omega) (fun x hx => absurd hx (Nat.not_lt_zero _))
  generalize hs2 : w2 (w2 s1 121 29 (nI t.1)) 121 35 (nI t.1) = s2
  have b1 : s2.1 = s1.1 := by rw [← hs2]; rfl
  have b2 : s2.2.1 121 29 = nI t.1 := by rw [← hs2, w2_o _ _ (by omega), w2_a]
  have b3 : s2.2.1 121 35 = nI t.1 := by rw [← hs2, w2_a]
  have b4 : ∀ q k, ¬ (q = 121 ∧ k = 29) → ¬ (q = 121 ∧ k = 35) → s2.2.1 q k = s.2.1 q k := fun q k n1 n2 => by rw [← hs2, w2_o _ _ n2, w2_o _ _ n1, a3]
  have b5 : s2.2.2 = s.2.2 := by rw [← hs2, w2_g, w2_g, a3]
  have hT2 : mT s2 j t := mT_congr (fun q q1 q2 => by rw [b1, a2 q (by omega)]) hT
  obtain ⟨s3, c1, c2, c3⟩ := m_bg_loop (L := L) (xs := xs) (d := d) hj hw t.1 0 s2 rfl (Nat.zero_le _) hT2 ⟨fun n hn => by rw [b1, a1 n hn]; rfl, fun n hn => absurd hn (Nat.not_lt_zero _)⟩
  refine ⟨s3, ⟨by rw [c2.2]; exact b2, ?_, fun k hk => ?_, fun n hn => ?_⟩, fun n hn => ?_, ⟨fun q hq => by rw [c2.1 q hq, b1, a2 q (by omega)], fun q k n1 n2 => by rw [c2.2]; exact b4 q k n1 n2, by rw [c2.2]; exact b5⟩, fun Q => ?_⟩
  · rw [c2.2, b3]
    show nI t.1 = nI (List.range t.1).length
    rw [List.length_range]
  · have hk : k < (List.range t.1).length := hk
    rw [List.length_range] at hk
    show s3.1 151 k = nI (nthL (List.range t.1) k)
    rw [nthL_range hk]
    exact (c1.2 k hk).1
  · have hn : n < t.1 := List.mem_range.mp hn
    exact (c1.2 n hn).2
  · rw [c1.1 n hn]
    congr 1
    rw [decide_eq_decide]
    exact List.mem_range.symm
  · have a4 : am_Rn L xs d 113 2 [.ref 121, .int (nI j), .int 0] [] (mk s) Q = _ := a4 Q
    have c3 : am_Rn L xs d 113 43 [.ref 121, .int (nI j), .int 0] [] (mk s2) Q = _ := c3 Q
    have j1 : am_in (nI j) 4 = true := in_of hj (by decide)
    have j2 : (nI j).toNatClampNeg = j := nI_clamp (by omega)
    have e1 : s1.1 122 j = nI t.1 := by rw [a2 122 (by omega)]; exact hT.1
    rw [← c3, ← hs2]
    simp only [e113, r113_0, r113_1, List.length_cons, List.length_nil, List.set_cons_succ, List.set_cons_zero, Nat.reduceAdd, Nat.reduceLT, true_and]
    rw [a4]
    simp only [r113_21, r113_22, r113_23, r113_26, r113_27, r113_28, r113_31, r113_32, r113_33, r113_36, r113_37, r113_38, r113_41, r113_42, am_li0, am_liS, am_laR0, g121_0, a122, v121_29', v121_35', w2_1, j1, j2, e1, List.length_cons, List.length_nil, List.set_cons_succ, List.set_cons_zero, Nat.reduceAdd, Nat.reduceLT, true_and]
theorem msc_E {s s' : St} {i : Nat} {l : List Sp} (f : frE s s') (h : msc s i l) : msc s' i l := ⟨by rw [f.1 138 (by omega)]; exact h.1, fun k p hk j hj => by rw [f.1 _ (by omega)]; exact h.2 k p hk j hj⟩
/-- one step of slot i, as it stands there -/
theorem m_does1 {s : St} {i k : Nat} {l : List Sp} {q : Sp} {R : Rs} (hi : i < 4) (hs : msc s i l) (hl : l.length ≤ 24) (hk : l[k]? = some q) (hR : rOk R) (h : mR s R) (ht : thA s R.2.1) (hq : okS R q) :
    ∃ s' : St, mR s' (doS R q) ∧ thA s' (doS R q).2.1 ∧ frE s s' ∧ (am_in (nI (40 * i + k)) 160 = true ∧ (nI (40 * i + k)).toNatClampNeg = 40 * i + k) ∧ ∀ Q : Option Value → am_S → Prop, am_Call L xs (d + 2) 114 [.ref 121, .int (nI (40 * i + k)), .int (s.1 140 (40 * i + k)), .int (s.1 141 (40 * i + k)), .int (s.1 142 (40 * i + k))] (mk s) Q = Q none (mk s') := by
  have hkl : k < l.length := (List.getElem?_eq_some_iff.mp hk).1
  obtain ⟨kd, nd, p, b, y, x⟩ := q
  obtain ⟨v, e, hv, hc⟩ := hq
  dsimp only at e hc
  subst e
  have g0 : s.1 139 (40 * i + k) = kd := hs.2 k _ hk 0 (by decide)
  have g1 : s.1 140 (40 * i + k) = nI v := hs.2 k _ hk 1 (by decide)
  have g2 : s.1 141 (40 * i + k) = p := hs.2 k _ hk 2 (by decide)
  have g3 : s.1 142 (40 * i + k) = b := hs.2 k _ hk 3 (by decide)
  have g4 : s.1 143 (40 * i + k) = y := hs.2 k _ hk 4 (by decide)
  have g5 : s.1 144 (40 * i + k) = x := hs.2 k _ hk 5 (by decide)
  rw [g1, g2, g3]
  obtain ⟨s', a1, a2, a3, a4⟩ := m_does (L := L) (xs := xs) (d := d) (show 40 * i + k < 160 by omega) g0 g4 g5 hR h ht hv hc
  exact ⟨s', a1, a2, a3, ⟨in_of (by omega) (by decide), nI_clamp (by omega)⟩, a4⟩
theorem m_rp_loop {n : Nat} {l : List Sp} (hl : l.length ≤ 24) (hn : n ≤ l.length) : ∀ (m k : Nat) (s : St) (R : Rs), n - k = m → k ≤ n → msc s 1 l → rOk R → mR s R → thA s R.2.1 → vaS R ((l.take n).drop k) →
    ∃ s' : St, mR s' (((l.take n).drop k).foldl doS R) ∧ thA s' (((l.take n).drop k).foldl doS R).2.1 ∧ frE s s' ∧ ∀ Q : Option Value → am_S → Prop, am_Rn L xs (d + 3) 112 31 [.ref 121, .int (nI n), .int (nI (40 + k))] [] (mk s) Q = am_Rn L xs (d + 3) 112 68 [.ref 121, .int (nI n), .int (nI (40 + n))] [] (mk s') Q
  | 0, k, s, R, hm, hk, hs, hR, h, ht, hv => by
    have e : k = n := by omega
    subst e
    have e0 : (l.take k).drop k = [] := by
      rw [List.drop_eq_nil_iff, List.length_take]; omega
    rw [e0]
    refine ⟨s, h, ht, ⟨fun _ _ => rfl, fun _ _ _ _ => rfl, rfl⟩, fun Q => ?_⟩
    have h1 : nI (40 + k) ≤ nI (40 + k) := nI_le (Nat.le_refl _) (by omega)
    rw [r112_31]
    simp only [r112_32, r112_34, r112_35, r112_36, am_li0, am_liS, ix40a, h1, if_true]
  | m + 1, k, s, R, hm, hk, hs, hR, h, ht, hv => by
    have h1 : ¬ nI (40 + n) ≤ nI (40 + k) := nI_ge (by omega) (by omega)
    have hlt : k < (l.take n).length := by rw [List.length_take]; omega
    have e1 : (l.take n).drop k = l[k] :: (l.take n).drop (k + 1) := by
      rw [List.drop_eq_getElem_cons hlt, List.getElem_take]
    have hg : l[k]? = some l[k] := List.getElem?_eq_getElem (by omega)
    rw [e1] at hv ⊢
    obtain ⟨s1, a1, a2, a3, a4, a5⟩ := m_does1 (L := L) (xs := xs) (d := d) (i := 1) (by omega) hs hl hg hR h ht hv.1
    obtain ⟨s', b1, b2, b3, b4⟩ := m_rp_loop hl hn m (k + 1) s1 (doS R l[k]) (by omega) (by omega) (msc_E a3 hs) (rOk_do hR hv.1) a1 a2 hv.2
    refine ⟨s', b1, b2, frE_t a3 b3, fun Q => ?_⟩
    have a4 : am_in (nI (40 + k)) 160 = true ∧ (nI (40 + k)).toNatClampNeg = 40 + k := a4
    have a5 : ∀ Q : Option Value → am_S → Prop, am_Call L xs (d + 2) 114 [.ref 121, .int (nI (40 + k)), .int (s.1 140 (40 + k)), .int (s.1 141 (40 + k)), .int (s.1 142 (40 + k))] (mk s) Q = Q none (mk s1) := a5
    have e9 : nI (40 + k) + 1 = nI (40 + (k + 1)) := nI_1 (40 + k)
    rw [← b4 Q, r112_31]
    simp only [r112_32, r112_34, r112_35, r112_36, r112_39, r112_40, r112_41, r112_42, r112_45, r112_46, r112_47, r112_48, r112_51, r112_52, r112_53, r112_54, r112_57, r112_58, r112_59, r112_62, r112_65, am_li0, am_liS, am_laR0, am_tN, m_oc, g121_20, g121_21, g121_22, a140, a141, a142, ix40a, h1, a4.1, a4.2, a5, e9, if_false, am_okI, am_okR, List.length_cons, List.length_nil, List.set_cons_succ, List.set_cons_zero, Nat.reduceAdd, Nat.reduceLT, Nat.zero_le, Nat.reduceLeDiff, and_true, true_and]
theorem v121_28' {s : St} {y o : Nat} {f : am_S → Prop} : am_wf y o (mk s) 121 6 28 (.int 1) f = f (mk (w2 s 121 28 1)) := v121_28 (Or.inr rfl)
theorem v121_280 {s : St} {y o : Nat} {f : am_S → Prop} : am_wf y o (mk s) 121 6 28 (.int 0) f = f (mk (w2 s 121 28 0)) := v121_28 (Or.inl rfl)
theorem v0_7' {s : St} {y o : Nat} {x : Int32} {f : am_S → Prop} (hx : x = 0 ∨ x = 1) : am_wf y o (mk s) 0 0 7 (.int x) f = f (mk (w2 s 0 7 x)) := v0_7 hx
/-- both sides hold the same result -/
def reI (s : St) (R : Rs) : Prop := s.2.1 0 7 = 1 ∧ s.2.1 121 28 = 1 ∧ rOk R ∧ cR s R ∧ mR s R ∧ thA s R.2.1
theorem mR_congr {s s' : St} {R : Rs} (h1 : ∀ q, 148 ≤ q → q ≤ 151 → s'.1 q = s.1 q) (h2 : s'.2.1 121 29 = s.2.1 121 29) (h3 : s'.2.1 121 35 = s.2.1 121 35) (h : mR s R) : mR s' R := by
  unfold mR
  rw [h2, h3, h1 148 (by omega) (by omega), h1 149 (by omega) (by omega), h1 150 (by omega) (by omega), h1 151 (by omega) (by omega)]
  exact h
theorem cR_congr {s s' : St} {R : Rs} (h1 : ∀ q, 55 ≤ q → q ≤ 58 → s'.1 q = s.1 q) (h2 : s'.2.1 54 4 = s.2.1 54 4) (h : cR s R) : cR s' R := by
  unfold cR
  rw [h2, h1 55 (by omega) (by omega), h1 56 (by omega) (by omega), h1 57 (by omega) (by omega), h1 58 (by omega) (by omega)]
  exact h
/-- the start of a replay or a merge in the class -/
theorem c_start {s : St} {q : Nat} {t : Tr} (hF : isF q 12) (hq : q + 5 ≤ 54) (hc : cT s q t) (hw : tW t) :
    ∃ s' : St, cR s' (trR t) ∧ frF 54 s s' ∧ ∀ Q : Option Value → am_S → Prop, am_Call L xs (d + 2) 23 [.ref 54, .ref q] (mk s) Q = Q none (mk s') := by
  have h12 := hw.1
  obtain ⟨s1, a1, a2, a3, a4, a5⟩ := c_copyFrom (L := L) (xs := xs) (d := d) (s := s) isF_54 hF (by decide) hc.1 h12 (by omega) (by omega)
  refine ⟨s1, ⟨a1, fun n hn hq => ?_, fun n hn => ?_⟩, a4, a5⟩
  · refine a3 n ?_ hn
    have : ¬ n < t.1 := fun q => hq (List.mem_range.mpr q)
    omega
  · have hn : n < t.1 := List.mem_range.mp hn
    obtain ⟨g1, g2, g3, g4⟩ := a2 n hn
    obtain ⟨e1, e2, e3, e4⟩ := hc.2.1 n hn
    refine ⟨g1.trans e1, g2.trans (e2.trans ?_), g3.trans e3, g4.trans e4⟩
    show nI (cnt t.2.1 (t.2.1 n) n) = nI (plL t.2.1 (t.2.1 n) (List.range t.1) n)
    congr 1
    have key : ∀ m, n ≤ m → plL t.2.1 (t.2.1 n) (List.range m) n = if n < m then cnt t.2.1 (t.2.1 n) n else plL t.2.1 (t.2.1 n) (List.range n) n := by
      intro m
      induction m with
      | zero => intro h; rw [if_neg (by omega)]; rw [show n = 0 by omega]
      | succ m ih =>
        intro h
        by_cases e : n = m + 1
        · rw [if_neg (by omega), e]
        · rw [if_pos (by omega), List.range_succ]
          by_cases e2 : n = m
          · subst e2
            have : n ∉ List.range n := fun q => Nat.lt_irrefl _ (List.mem_range.mp q)
            rw [plL_out this, plL_c, if_pos rfl, Nat.add_zero]
            have ct : ∀ k, ctL t.2.1 (t.2.1 n) (List.range k) = cnt t.2.1 (t.2.1 n) k := by
              intro k
              induction k with
              | zero => rfl
              | succ k ihk =>
                rw [List.range_succ, ctL_app, ihk, cnt_s]
                show _ + ((if t.2.1 k = t.2.1 n then 1 else 0) + 0) = _
                omega
            exact ct n
          · rw [plL_in (List.mem_range.mpr (by omega)), ih (by omega), if_pos (by omega)]
    rw [key t.1 (by omega), if_pos hn]
end
