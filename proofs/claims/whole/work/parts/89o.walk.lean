/-! The reference finds the order of the script -/
def nthL (l : List Nat) (k : Nat) : Nat := (l[k]?).getD 0
theorem nthL_0 (y : Nat) (l : List Nat) : nthL (y :: l) 0 = y := rfl
theorem nthL_s (y : Nat) (l : List Nat) (k : Nat) : nthL (y :: l) (k + 1) = nthL l k := rfl
theorem nthL_mem {l : List Nat} {k : Nat} (h : k < l.length) : nthL l k ∈ l := by
  unfold nthL
  rw [List.getElem?_eq_getElem h]
  exact List.getElem_mem h
theorem nthL_in (X : List Nat) (v : Nat) (B : List Nat) (k : Nat) : nthL (X ++ v :: B) k = if k < X.length then nthL (X ++ B) k else if k = X.length then v else nthL (X ++ B) (k - 1) := by
  unfold nthL
  by_cases h : k < X.length
  · rw [if_pos h, List.getElem?_append_left h, List.getElem?_append_left h]
  · rw [if_neg h]
    by_cases e : k = X.length
    · rw [if_pos e, e, List.getElem?_append_right (Nat.le_refl _), Nat.sub_self]; rfl
    · obtain ⟨m, hm⟩ : ∃ m, k = X.length + (m + 1) := ⟨k - X.length - 1, by omega⟩
      rw [if_neg e, List.getElem?_append_right (by omega), List.getElem?_append_right (by omega), show k - X.length = m + 1 by omega, show k - 1 - X.length = m by omega]
      rfl
/-- behind the last that is in P -/
def lpF (P : Nat → Bool) : Nat → Nat
  | 0 => 0
  | k + 1 => if P k = true then k + 1 else lpF P k
theorem lpF_s (P : Nat → Bool) (k : Nat) : lpF P (k + 1) = if P k = true then k + 1 else lpF P k := rfl
theorem lpF_le (P : Nat → Bool) : ∀ k, lpF P k ≤ k
  | 0 => Nat.le_refl _
  | k + 1 => by have := lpF_le P k; rw [lpF_s]; split <;> omega
theorem lpF_at {P : Nat → Bool} {a : Nat} (h : P a = true) : ∀ m, (∀ k, a < k → k < a + 1 + m → P k = false) → lpF P (a + 1 + m) = a + 1
  | 0, _ => by rw [Nat.add_zero, lpF_s, if_pos h]
  | m + 1, hf => by
    rw [← Nat.add_assoc, lpF_s, if_neg (by rw [hf (a + 1 + m) (by omega) (by omega)]; decide)]
    exact lpF_at h m (fun k h1 h2 => hf k h1 (by omega))
/-- at or below p, the k-th -/
def upP (w : Tr) (p : Nat) (l : List Nat) (k : Nat) : Bool := decide (nthL l k = p) || bl w p (nthL l k)
theorem upP_iff {w : Tr} {p : Nat} {l : List Nat} {k : Nat} : upP w p l k = true ↔ up w p (nthL l k) := by
  unfold upP up
  rw [Bool.or_eq_true, decide_eq_true_iff]
theorem lpF_inL {w : Tr} {p : Nat} {A : List Nat} {z : Nat} {B : List Nat} (hz : up w p z) (hB : ∀ u, u ∈ B → ¬ up w p u) : lpF (upP w p ((A ++ [z]) ++ B)) ((A ++ [z]) ++ B).length = (A ++ [z]).length := by
  have e1 : ((A ++ [z]) ++ B).length = A.length + 1 + B.length := by simp only [List.length_append, List.length_cons, List.length_nil]
  have e2 : (A ++ [z]).length = A.length + 1 := by simp only [List.length_append, List.length_cons, List.length_nil]
  rw [e1, e2]
  refine lpF_at ?_ _ fun k h1 h2 => ?_
  · refine upP_iff.mpr ?_
    have : nthL ((A ++ [z]) ++ B) A.length = z := by
      unfold nthL
      rw [List.getElem?_append_left (by omega), List.getElem?_append_right (Nat.le_refl _), Nat.sub_self]; rfl
    rw [this]; exact hz
  · cases hh : upP w p ((A ++ [z]) ++ B) k with
    | false => rfl
    | true =>
      exfalso
      have hu := upP_iff.mp hh
      have hk : nthL ((A ++ [z]) ++ B) k ∈ B := by
        have : nthL ((A ++ [z]) ++ B) k = nthL B (k - (A.length + 1)) := by
          unfold nthL
          rw [List.getElem?_append_right (by omega), e2]
        rw [this]
        exact nthL_mem (by omega)
      exact hB _ hk hu
section
variable {L : Nat} {xs : Nat → Int32} {d : Nat}
/-- what the reference needs when it walks -/
def mW (s : St) (j' : Nat) (w : Tr) : Prop := j' < 3 ∧ mT s j' w ∧ s.2.1 121 17 = nI j' ∧ tW w ∧ ∀ x y, x < 12 → y < 12 → s.1 130 (12 * x + y) = bI (LF w x y)
theorem mW_fr {s s' : St} {j' : Nat} {w : Tr} (f : fzM s s') (h : mW s j' w) : mW s' j' w := by
  obtain ⟨h1, h2, h3, h4, h5⟩ := h
  exact ⟨h1, mT_congr (fun q z1 z2 => f.1 q (by omega)) h2, by rw [f.2]; exact h3, h4, fun x y hx hy => by rw [f.1 130 (by omega)]; exact h5 x y hx hy⟩
theorem m_wk_pl {s : St} {j' v : Nat} {w : Tr} {l : List Nat} (hW : mW s j' w) (h0 : 0 < v) (hv : v < w.1) (hn : l.length = v) (hl : ∀ k, k < v → s.1 136 k = nI (nthL l k)) (hm : ∀ z, z ∈ l → z < v) : ∀ (m k : Nat) (v5 : Value), v - k = m → k ≤ v →
    ∃ v5' : Value, ∀ Q : Option Value → am_S → Prop, am_Rn L xs d 106 36 [.ref 121, .int (nI v), .int (nI v), .int (nI (lpF (upP w (pm w v) l) k)), .int (nI k), v5] [] (mk s) Q = am_Rn L xs d 106 109 [.ref 121, .int (nI v), .int (nI v), .int (nI (lpF (upP w (pm w v) l) v)), .int (nI v), v5'] [] (mk s) Q
  | 0, k, v5, hmm, hk => by
    obtain ⟨hj', q2, q4, hw', hlo⟩ := hW
    have h12' := hw'.1
    have e : k = v := by omega
    subst e
    refine ⟨v5, fun Q => ?_⟩
    have h1 : nI k ≤ nI k := nI_le (Nat.le_refl _) (by omega)
    rw [r106_36]
    simp only [r106_38, r106_39, am_li0, am_liS, h1, if_true]
  | m + 1, k, v5, hmm, hk => by
    have hW' := hW
    obtain ⟨hj', q2, q4, hw', hlo⟩ := hW
    have h12' := hw'.1
    have h1 : ¬ nI v ≤ nI k := nI_ge (by omega) (by omega)
    have k1 : am_in (nI k) 12 = true := in_of (by omega) (by decide)
    have k2 : (nI k).toNatClampNeg = k := nI_clamp (by omega)
    have hu := hm _ (nthL_mem (show k < l.length by omega))
    have e1 := hl k (by omega)
    have hp := pm_lt w h0
    have z1 : am_in (nI (12 * j' + v)) 48 = true := in_of (by omega) (by decide)
    have z2 : (nI (12 * j' + v)).toNatClampNeg = 12 * j' + v := nI_clamp (by omega)
    have ep : s.1 123 (12 * j' + v) = nI (pm w v) := ((q2.2 v hv).1).trans (pm_eq hw' h0 hv)
    obtain ⟨v5', ih⟩ := m_wk_pl hW' h0 hv hn hl hm m (k + 1) (.int (nI (nthL l k))) (by omega) (by omega)
    refine ⟨v5', fun Q => ?_⟩
    rw [← ih Q, lpF_s, r106_36]
    by_cases c1 : nthL l k = pm w v
    · have c2 : upP w (pm w v) l k = true := upP_iff.mpr (Or.inl c1)
      rw [c1] at e1
      rw [if_pos c2, c1]
      simp only [r106_38, r106_39, r106_42, r106_43, r106_46, r106_48, r106_49, r106_51, r106_53, r106_54, r106_57, r106_59, r106_60, r106_63, r106_64, r106_65, r106_66, r106_67, r106_98, r106_100, r106_101, r106_102, r106_103, r106_106, am_li0, am_liS, am_laR0, g121_1, g121_14, g121_17, a123, a136, h1, k1, k2, e1, q4, ix12, z1, z2, ep, nI_1, if_true, if_false, List.length_cons, List.length_nil, List.set_cons_succ, List.set_cons_zero, Nat.reduceAdd, Nat.reduceLT, Nat.zero_le, Nat.reduceLeDiff, and_true, true_and]
    · have c3 : ¬ nI (nthL l k) = nI (pm w v) := fun q => c1 ((nI_eq (by omega) (by omega)).mp q)
      have z3 : am_in (nI (12 * pm w v + nthL l k)) 144 = true := in_of (by omega) (by decide)
      have z4 : (nI (12 * pm w v + nthL l k)).toNatClampNeg = 12 * pm w v + nthL l k := nI_clamp (by omega)
      have e2 := hlo (pm w v) (nthL l k) (by omega) (by omega)
      have e3 : LF w (pm w v) (nthL l k) = bl w (pm w v) (nthL l k) := by
        unfold LF
        rw [decide_eq_true (show nthL l k < w.1 by omega), Bool.true_and]
      rw [e3] at e2
      cases hb : bl w (pm w v) (nthL l k) with
      | true =>
        rw [hb] at e2
        have c2 : upP w (pm w v) l k = true := upP_iff.mpr (Or.inr hb)
        have n1 : ¬ bI true = 0 := by decide
        rw [if_pos c2]
        simp only [r106_38, r106_39, r106_42, r106_43, r106_46, r106_48, r106_49, r106_51, r106_53, r106_54, r106_57, r106_59, r106_60, r106_63, r106_64, r106_65, r106_66, r106_67, r106_70, r106_71, r106_74, r106_76, r106_77, r106_80, r106_82, r106_83, r106_86, r106_87, r106_88, r106_89, r106_90, r106_91, r106_93, r106_94, r106_95, r106_98, r106_100, r106_101, r106_102, r106_103, r106_106, am_li0, am_liS, am_laR0, g121_1, g121_8, g121_14, g121_17, a123, a130, a136, h1, k1, k2, e1, q4, ix12, z1, z2, z3, z4, ep, e2, c3, n1, nI_1, if_true, if_false, List.length_cons, List.length_nil, List.set_cons_succ, List.set_cons_zero, Nat.reduceAdd, Nat.reduceLT, Nat.zero_le, Nat.reduceLeDiff, and_true, true_and]
      | false =>
        rw [hb] at e2
        have c2 : ¬ upP w (pm w v) l k = true := fun q => by
          rcases upP_iff.mp q with q | q
          · exact c1 q
          · rw [hb] at q; cases q
        have n1 : bI false = 0 := rfl
        rw [if_neg c2]
        simp only [r106_38, r106_39, r106_42, r106_43, r106_46, r106_48, r106_49, r106_51, r106_53, r106_54, r106_57, r106_59, r106_60, r106_63, r106_64, r106_65, r106_66, r106_67, r106_70, r106_71, r106_74, r106_76, r106_77, r106_80, r106_82, r106_83, r106_86, r106_87, r106_88, r106_89, r106_90, r106_91, r106_93, r106_94, r106_95, r106_103, r106_106, am_li0, am_liS, am_laR0, g121_1, g121_8, g121_14, g121_17, a123, a130, a136, h1, k1, k2, e1, q4, ix12, z1, z2, z3, z4, ep, e2, c3, n1, nI_1, if_true, if_false, List.length_cons, List.length_nil, List.set_cons_succ, List.set_cons_zero, Nat.reduceAdd, Nat.reduceLT, Nat.zero_le, Nat.reduceLeDiff, and_true, true_and]
theorem w136' {s : St} {i x : Int32} {f : am_S → Prop} : am_wi 0 (mk s) 136 i x f = (am_in i 12 = true ∧ f (mk (w1 s 136 i.toNatClampNeg x))) := w136
theorem m_wk_sh {v pl : Nat} {l : List Nat} {v2 v5 : Value} (hv : v < 12) : ∀ (m : Nat) (s : St), pl + m ≤ v → (∀ i, i < pl + m → s.1 136 i = nI (nthL l i)) → (∀ i, pl + m < i → i ≤ v → s.1 136 i = nI (nthL l (i - 1))) →
    ∃ s' : St, (∀ i, i < pl → s'.1 136 i = nI (nthL l i)) ∧ (∀ i, pl < i → i ≤ v → s'.1 136 i = nI (nthL l (i - 1))) ∧ (∀ q, q ≠ 136 → s'.1 q = s.1 q) ∧ s'.2 = s.2 ∧ ∀ Q : Option Value → am_S → Prop, am_Rn L xs d 106 112 [.ref 121, .int (nI v), v2, .int (nI pl), .int (nI (pl + m)), v5] [] (mk s) Q = am_Rn L xs d 106 140 [.ref 121, .int (nI v), v2, .int (nI pl), .int (nI pl), v5] [] (mk s') Q
  | 0, s, hm, h1, h2 => by
    refine ⟨s, h1, h2, fun _ _ => rfl, rfl, fun Q => ?_⟩
    have e1 : nI pl ≤ nI pl := nI_le (Nat.le_refl _) (by omega)
    rw [Nat.add_zero, r106_112]
    simp only [r106_114, r106_115, am_li0, am_liS, e1, if_true]
  | m + 1, s, hm, h1, h2 => by
    have e1 : ¬ nI (pl + (m + 1)) ≤ nI pl := nI_ge (by omega) (by omega)
    have k1 : am_in (nI (pl + (m + 1))) 12 = true := in_of (by omega) (by decide)
    have k2 : (nI (pl + (m + 1))).toNatClampNeg = pl + (m + 1) := nI_clamp (by omega)
    have k3 : am_in (nI (pl + m)) 12 = true := in_of (by omega) (by decide)
    have k4 : (nI (pl + m)).toNatClampNeg = pl + m := nI_clamp (by omega)
    have ea : nI (pl + (m + 1)) - 1 = nI (pl + m) := nI_pred (pl + m)
    have eb : nI (pl + (m + 1)) + -1 = nI (pl + m) := pk_m1 (pl + m)
    have er := h1 (pl + m) (by omega)
    obtain ⟨s', a1, a2, a3, a4, a5⟩ := m_wk_sh (pl := pl) (l := l) (v2 := v2) (v5 := v5) hv m (w1 s 136 (pl + (m + 1)) (nI (nthL l (pl + m)))) (by omega) (fun i hi => by rw [w1_n _ _ _ (by omega)]; exact h1 i (by omega)) (fun i i1 i2 => by
      by_cases e : i = pl + (m + 1)
      · rw [e, w1_a]; rfl
      · rw [w1_n _ _ _ e]; exact h2 i (by omega) i2)
    refine ⟨s', a1, a2, fun q hq => (a3 q hq).trans (w1_o _ _ _ hq), a4, fun Q => ?_⟩
    rw [← a5 Q, r106_112]
    simp only [r106_114, r106_115, r106_118, r106_119, r106_122, r106_124, r106_125, r106_128, r106_130, r106_131, r106_132, r106_133, r106_134, r106_137, am_li0, am_liS, am_laR0, g121_14, a136, w136', e1, k1, k2, k3, k4, ea, eb, er, if_false, List.length_cons, List.length_nil, List.set_cons_succ, List.set_cons_zero, Nat.reduceAdd, Nat.reduceLT, Nat.zero_le, Nat.reduceLeDiff, and_true, true_and]
theorem m_wk_loop {j' : Nat} {w : Tr} : ∀ (m v : Nat) (s : St) (v3 v4 v5 : Value), w.1 - v = m → 0 < v → v ≤ w.1 → mW s j' w → (∀ k, k < v → s.1 136 k = nI (nthL (rowL w v) k)) →
    ∃ s' : St, (∀ k, k < w.1 → s'.1 136 k = nI (nthL (rowL w w.1) k)) ∧ (∀ q, q ≠ 136 → s'.1 q = s.1 q) ∧ s'.2 = s.2 ∧ ∀ Q : Option Value → am_S → Prop, am_Rn L xs d 106 18 [.ref 121, .int (nI v), .int (nI v), v3, v4, v5] [] (mk s) Q = Q none (mk s')
  | 0, v, s, v3, v4, v5, hm, h0, hv, hW, hr => by
    obtain ⟨hj', q2, q4, hw', hlo⟩ := hW
    have h12' := hw'.1
    have e : v = w.1 := by omega
    subst e
    refine ⟨s, hr, fun _ _ => rfl, rfl, fun Q => ?_⟩
    have h1 : nI w.1 ≤ nI w.1 := nI_le (Nat.le_refl _) (by omega)
    have k2 : am_in (nI j') 4 = true := in_of (by omega) (by decide)
    have k3 : (nI j').toNatClampNeg = j' := nI_clamp (by omega)
    rw [r106_18]
    simp only [r106_19, r106_20, r106_23, r106_24, r106_27, r106_28, r106_156, am_li0, am_liS, am_laR0, g121_0, g121_17, a122, q4, k2, k3, q2.1, h1, if_true, true_and]
  | m + 1, v, s, v3, v4, v5, hm, h0, hv, hW, hr => by
    have hW' := hW
    obtain ⟨hj', q2, q4, hw', hlo⟩ := hW
    have h12' := hw'.1
    have h1 : ¬ nI w.1 ≤ nI v := nI_ge (by omega) (by omega)
    have k2 : am_in (nI j') 4 = true := in_of (by omega) (by decide)
    have k3 : (nI j').toNatClampNeg = j' := nI_clamp (by omega)
    have hlen := rowL_len hw' h0 (by omega)
    obtain ⟨u5, r1⟩ := m_wk_pl (L := L) (xs := xs) (d := d) hW' h0 (show v < w.1 by omega) hlen hr (fun z hz => rowL_mem hw' h0 (by omega) hz) v 0 v5 rfl (Nat.zero_le _)
    obtain ⟨A, z, B, e1, e2, e3, e4⟩ := rowL_s hw' h0 (show v < w.1 by omega)
    have hpl : lpF (upP w (pm w v) (rowL w v)) v = (A ++ [z]).length := by
      have := lpF_inL e3 e4 (A := A)
      rw [← e1, hlen] at this
      exact this
    have hple := lpF_le (upP w (pm w v) (rowL w v)) v
    rw [hpl] at r1 hple
    generalize hX : A ++ [z] = Y at e1 e2 hpl r1 hple
    obtain ⟨dm, hdm⟩ : ∃ dm, Y.length + dm = v := ⟨v - Y.length, by omega⟩
    obtain ⟨s1, a1, a2, a3, a4, a5⟩ := m_wk_sh (L := L) (xs := xs) (d := d) (pl := Y.length) (l := rowL w v) (v2 := .int (nI v)) (v5 := u5) (show v < 12 by omega) dm s (by omega) (fun i hi => hr i (by omega)) (fun i i1 i2 => by omega)
    rw [hdm] at a5
    have p1 : am_in (nI Y.length) 12 = true := in_of (by omega) (by decide)
    have p2 : (nI Y.length).toNatClampNeg = Y.length := nI_clamp (by omega)
    obtain ⟨s', b1, b2, b3, b4⟩ := m_wk_loop m (v + 1) (w1 s1 136 Y.length (nI v)) (.int (nI Y.length)) (.int (nI Y.length)) u5 (by omega) (by omega) (by omega) (mW_fr ⟨fun q hq => by rw [w1_o _ _ _ (by omega)]; exact a3 q (by omega), a4⟩ hW') (fun k hk => by
      rw [e2, nthL_in, ← e1]
      by_cases c1 : k < Y.length
      · rw [if_pos c1, w1_n _ _ _ (by omega)]; exact a1 k c1
      · rw [if_neg c1]
        by_cases c2 : k = Y.length
        · rw [if_pos c2, c2, w1_a]
        · rw [if_neg c2, w1_n _ _ _ c2]; exact a2 k (by omega) (by omega))
    refine ⟨s', b1, fun q hq => by rw [b2 q hq, w1_o _ _ _ hq, a3 q hq], by rw [b3, w1_2, a4], fun Q => ?_⟩
    have r1 : am_Rn L xs d 106 36 [.ref 121, .int (nI v), .int (nI v), .int 0, .int 0, v5] [] (mk s) Q = _ := r1 Q
    rw [← b4 Q, r106_18]
    simp only [r106_19, r106_20, r106_23, r106_24, r106_27, r106_28, r106_31, r106_32, r106_33, r106_34, am_li0, am_liS, am_laR0, g121_0, g121_17, a122, q4, k2, k3, q2.1, h1, if_false, List.length_cons, List.length_nil, List.set_cons_succ, List.set_cons_zero, Nat.reduceAdd, Nat.reduceLT, Nat.zero_le, Nat.reduceLeDiff, and_true, true_and]
    rw [r1]
    simp only [r106_109, r106_110, am_li0, am_liS, List.length_cons, List.length_nil, List.set_cons_succ, List.set_cons_zero, Nat.reduceAdd, Nat.reduceLT, Nat.zero_le, Nat.reduceLeDiff, and_true, true_and]
    rw [a5 Q]
    simp only [r106_140, r106_141, r106_144, r106_145, r106_146, r106_147, r106_150, r106_153, am_li0, am_liS, am_laR0, g121_14, w136', p1, p2, nI_1, List.length_cons, List.length_nil, List.set_cons_succ, List.set_cons_zero, Nat.reduceAdd, Nat.reduceLT, Nat.zero_le, Nat.reduceLeDiff, and_true, true_and]
theorem w135' {s : St} {i x : Int32} {f : am_S → Prop} : am_wi 0 (mk s) 135 i x f = (am_in i 12 = true ∧ f (mk (w1 s 135 i.toNatClampNeg x))) := w135
theorem m_walk {s : St} {j' : Nat} {w : Tr} (hW : mW s j' w) (hu : 0 < w.1) :
    ∃ s' : St, (∀ k, k < w.1 → s'.1 136 k = nI (nthL (rowL w w.1) k)) ∧ (∀ q, q ≠ 135 → q ≠ 136 → s'.1 q = s.1 q) ∧ s'.2 = s.2 ∧ ∀ Q : Option Value → am_S → Prop, am_Call L xs d 106 [.ref 121] (mk s) Q = Q none (mk s') := by
  obtain ⟨s', a1, a2, a3, a4⟩ := m_wk_loop (L := L) (xs := xs) (d := d) (w.1 - 1) 1 (w1 (w1 s 136 0 0) 135 0 0) (.retAddr 0) (.retAddr 0) (.retAddr 0) rfl (by omega) hu (mW_fr ⟨fun q hq => by rw [w1_o _ _ _ (by omega), w1_o _ _ _ (by omega)], rfl⟩ hW) (fun k hk => by
    have e : k = 0 := by omega
    subst e
    rw [w1_o _ _ _ (by omega), w1_a, rowL_1]; rfl)
  refine ⟨s', a1, fun q h1 h2 => by rw [a2 q h2, w1_o _ _ _ h1, w1_o _ _ _ h2], a3, fun Q => ?_⟩
  have a4 : am_Rn L xs d 106 18 [.ref 121, .int 1, .int 1, .retAddr 0, .retAddr 0, .retAddr 0] [] (mk (w1 (w1 s 136 0 0) 135 0 0)) Q = _ := a4 Q
  have z1 : am_in 0 12 = true := by decide
  have z2 : (0 : Int32).toNatClampNeg = 0 := rfl
  rw [← a4]
  simp only [e106, r106_0, r106_1, r106_2, r106_3, r106_6, r106_7, r106_8, r106_9, r106_10, r106_13, r106_14, r106_15, r106_16, r106_17, am_li0, am_liS, am_laR0, g121_13, g121_14, w135', w136', z1, z2, List.length_cons, List.length_nil, List.set_cons_succ, List.set_cons_zero, Nat.reduceAdd, Nat.reduceLT, Nat.zero_le, Nat.reduceLeDiff, and_true, true_and]
end
