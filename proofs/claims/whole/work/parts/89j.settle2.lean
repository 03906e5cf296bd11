/-! The reference: those that stay, written down; all parents -/
def xK (K : Nat → Bool) (p k : Nat) (X : Nat → Bool) (x : Nat) : Bool := if K x = true ∧ lz K x < k then p.testBit (lz K x) else X x
theorem xK_0 (K : Nat → Bool) (p : Nat) (X : Nat → Bool) : xK K p 0 X = X := by
  funext x
  exact if_neg fun q => absurd q.2 (Nat.not_lt_zero _)
theorem kg_t (t w : Tr) (M : Pr) (A B : Int32) : kg t w M A B true = kn t w M A B := by funext x; exact Bool.and_true _
theorem kg_f (t w : Tr) (M : Pr) (A B : Int32) (x : Nat) : kg t w M A B false x = false := Bool.and_false _
section
variable {L : Nat} {xs : Nat → Int32} {d : Nat} {s : St}
theorem m_st_fin {u n p : Nat} {K X : Nat → Bool} {A v4 v6 v7 v8 v9 : Value} (hu : u ≤ 12) (hn : n = lz K u) (hp : p < 2 ^ 12) : ∀ (m k : Nat) (s : St), n - k = m → k ≤ n → (∀ i, i < n → s.1 137 i = nI (nth K u i)) → (∀ x, x < u → s.1 134 x = bI (xK K p k X x)) →
    ∃ s' : St, (∀ x, x < u → s'.1 134 x = bI (xK K p n X x)) ∧ (∀ q, q ≠ 134 → s'.1 q = s.1 q) ∧ s'.2 = s.2 ∧ ∀ Q : Option Value → am_S → Prop, am_Rn L xs d 105 280 [.ref 121, A, .int (nI n), .int (nI p), v4, .int (nI k), v6, v7, v8, v9] [] (mk s) Q = Q none (mk s')
  | 0, k, s, hm, hk, hr, hs => by
    have e : k = n := by omega
    subst e
    have := lz_le K u
    refine ⟨s, hs, fun _ _ => rfl, rfl, fun Q => ?_⟩
    have h1 : nI k ≤ nI k := nI_le (Nat.le_refl _) (by omega)
    rw [r105_280]
    simp only [r105_282, r105_283, r105_319, am_li0, am_liS, h1, if_true]
  | m + 1, k, s, hm, hk, hr, hs => by
    have hz := lz_le K u
    have h1 : ¬ nI n ≤ nI k := nI_ge (by omega) (by omega)
    have k1 : am_in (nI k) 12 = true := in_of (by omega) (by decide)
    have k2 : (nI k).toNatClampNeg = k := nI_clamp (by omega)
    have hb := nI_bit (v := p) (n := k) (by omega) (by omega)
    have r1 := hr k (by omega)
    obtain ⟨n1, n2, n3⟩ := nth_ok K (show k < lz K u by omega)
    generalize hx : nth K u k = x at r1 n1 n2 n3
    have x1 : am_in (nI x) 12 = true := in_of (by omega) (by decide)
    have x2 : (nI x).toNatClampNeg = x := nI_clamp (by omega)
    generalize hs1 : ((va_up s.1 134 (upd (s.1 134) x (bI (p.testBit k))), s.2) : St) = s1
    have f1 : ∀ q, q ≠ 134 → s1.1 q = s.1 q := fun q hq => by rw [← hs1]; exact up_ne _ _ hq
    have f2 : s1.1 134 = upd (s.1 134) x (bI (p.testBit k)) := by rw [← hs1]; dsimp only; rw [up_same]
    have f3 : s1.2 = s.2 := by rw [← hs1]
    obtain ⟨s', q1, q2, q3, q4⟩ := m_st_fin (X := X) (A := A) (v4 := v4) (v6 := v6) (v7 := v7) (v8 := v8) (v9 := v9) hu hn hp m (k + 1) s1 (by omega) (by omega) (fun i hi => by rw [f1 137 (by omega)]; exact hr i hi) (fun y hy => by
      rw [f2]
      by_cases e : y = x
      · rw [e, upd_s]
        unfold xK
        rw [if_pos ⟨n2, by omega⟩, n3]
      · rw [upd_n _ _ e, hs y hy]
        unfold xK
        by_cases hK : K y = true
        · have : lz K y ≠ k := fun q => by
            have := nth_at hy hK
            rw [q, hx] at this
            exact e this.symm
          by_cases hl : lz K y < k
          · rw [if_pos ⟨hK, hl⟩, if_pos ⟨hK, by omega⟩]
          · rw [if_neg (fun q => hl q.2), if_neg (fun q => by have := q.2; omega)]
        · rw [if_neg (fun q => hK q.1), if_neg (fun q => hK q.1)])
    refine ⟨s', q1, fun q hq => (q2 q hq).trans (f1 q hq), q3.trans f3, fun Q => ?_⟩
    rw [← q4 Q, ← hs1, r105_280]
    cases hf : p.testBit k with
    | true =>
      rw [hf] at hb
      have b1 : bI true = 1 := rfl
      have nb1 : vp_nar .boolean 1 = 1 := rfl
      simp only [r105_282, r105_283, r105_286, r105_287, r105_290, r105_291, r105_294, r105_296, r105_297, r105_298, r105_300, r105_301, r105_302, r105_303, r105_304, r105_307, r105_308, r105_312, r105_313, r105_316, am_li0, am_liS, am_laR0, g121_12, g121_15, a137, w134, h1, hb, b1, nb1, k1, k2, r1, x1, x2, nI_1, not_true, if_false, List.length_cons, List.length_nil, List.set_cons_succ, List.set_cons_zero, Nat.reduceAdd, Nat.reduceLT, Nat.reduceLeDiff, true_and]
    | false =>
      rw [hf] at hb
      have b0 : bI false = 0 := rfl
      have b1 : ¬ (0 : Int32) = 1 := by decide
      have nb0 : vp_nar .boolean 0 = 0 := rfl
      simp only [r105_282, r105_283, r105_286, r105_287, r105_290, r105_291, r105_294, r105_296, r105_297, r105_298, r105_300, r105_301, r105_302, r105_303, r105_304, r105_311, r105_312, r105_313, r105_316, am_li0, am_liS, am_laR0, g121_12, g121_15, a137, w134, h1, hb, b0, b1, nb0, k1, k2, r1, x1, x2, nI_1, not_false_eq_true, if_true, if_false, List.length_cons, List.length_nil, List.set_cons_succ, List.set_cons_zero, Nat.reduceAdd, Nat.reduceLT, Nat.reduceLeDiff, true_and]
theorem m_settle {j j' : Nat} {t w : Tr} {M : Pr} {A B : Int32} {g : Bool} {X : Nat → Bool} (hA : sA t M A B g) (hD : mD s j j' t w M) (hX : ∀ x, x < t.1 → s.1 134 x = bI (X x)) :
    ∃ (s' : St) (S : Nat → Bool), (g = true → lbst (vM t w M A B) (lz (kn t w M A B) t.1) S) ∧ (∀ x, x < t.1 → s'.1 134 x = bI (if g = true then xU t w M A B S X x else X x)) ∧ (∀ q, q ≠ 134 → q ≠ 137 → s'.1 q = s.1 q) ∧ s'.2 = s.2 ∧ ∀ Q : Option Value → am_S → Prop, am_Call L xs d 105 [.ref 121, .int A] (mk s) Q = Q none (mk s') := by
  have hw : tW t := hD.2.2.2.2.2.2.2.2.1
  have hpw : pW t w M := hD.2.2.2.2.2.2.2.1
  have hw' : tW w := hD.2.2.2.2.2.2.2.2.2
  have hM := hD.2.2.2.2.2.2.1
  have h12 := hw.1
  have h12' := hw'.1
  obtain ⟨s1, v3, v4, v5, a1, a2, a3, a4⟩ := m_gk_loop (L := L) (xs := xs) (d := d) (v6 := .retAddr 0) (v7 := .retAddr 0) (v8 := .retAddr 0) (v9 := .retAddr 0) hA t.1 0 s (.retAddr 0) (.retAddr 0) rfl (Nat.zero_le _) hD (fun x hx => absurd hx (Nat.not_lt_zero _))
  have hz := lz_le (kg t w M A B g) t.1
  have hr : ∀ i, i < lz (kg t w M A B g) t.1 → s1.1 137 i = nI (nth (kg t w M A B g) t.1 i) := fun i hi => by
    obtain ⟨n1, n2, n3⟩ := nth_ok _ hi
    have := a1 _ n1 n2
    rw [n3] at this
    exact this
  have hR : rwA (lz (kg t w M A B g) t.1) (nth (kg t w M A B g) t.1) (fun k => (M.1 (nth (kg t w M A B g) t.1 k)).getD 0) s1 := by
    intro k hk
    obtain ⟨n1, n2, n3⟩ := nth_ok _ hk
    have n4 : kn t w M A B (nth (kg t w M A B g) t.1 k) = true := by
      unfold kg at n2
      rw [Bool.and_eq_true] at n2
      exact n2.1
    obtain ⟨-, y, n5, -⟩ := kn_iff.mp n4
    refine ⟨hr k hk, by omega, ?_, ?_⟩
    · show s1.1 126 _ = nI ((M.1 (nth (kg t w M A B g) t.1 k)).getD 0)
      rw [a2 126 (by omega), (hM _ (by omega)).1, n5]; rfl
    · show (M.1 (nth (kg t w M A B g) t.1 k)).getD 0 < 12
      rw [n5]
      have := (hpw.1 _ _ n5).2
      show y < 12
      omega
  obtain ⟨p, u4, u6, u7, u8, u9, b1, b2⟩ := m_st_sets (L := L) (xs := xs) (d := d) (s := s1) (A := .int A) (show lz (kg t w M A B g) t.1 ≤ 12 by omega) hR (2 ^ lz (kg t w M A B g) t.1) 0 0 (.retAddr 0) (.retAddr 0) (.retAddr 0) (.retAddr 0) rfl (Nat.zero_le _) rJ_0
  have hp12 : p < 2 ^ 12 := Nat.lt_of_lt_of_le b1.1 (Nat.pow_le_pow_right (by decide) (by omega))
  obtain ⟨s2, c1, c2, c3, c4⟩ := m_st_fin (L := L) (xs := xs) (d := d) (X := X) (A := .int A) (v4 := u4) (v6 := u6) (v7 := u7) (v8 := u8) (v9 := u9) h12 (rfl : lz (kg t w M A B g) t.1 = lz (kg t w M A B g) t.1) hp12 _ 0 s1 rfl (Nat.zero_le _) hr (fun x hx => by rw [xK_0, a2 134 (by omega)]; exact hX x hx)
  refine ⟨s2, p.testBit, fun hg => ?_, fun x hx => ?_, fun q q1 q2 => (c2 q q1).trans (a2 q q2), c3.trans a3, fun Q => ?_⟩
  · have := rJ_e b1
    rw [hg, kg_t] at this
    exact this
  · rw [c1 x hx]
    cases g with
    | true =>
      rw [if_pos rfl, kg_t]
      unfold xK xU
      by_cases hk : kn t w M A B x = true
      · rw [if_pos hk, if_pos ⟨hk, lz_lt hx hk⟩]
      · rw [if_neg hk, if_neg (fun q => hk q.1)]
    | false =>
      rw [if_neg (by decide)]
      unfold xK
      rw [if_neg (fun q => by have := q.1; rw [kg_f] at this; cases this)]
  · have a4 : am_Rn L xs d 105 4 [.ref 121, .int A, .int 0, .int 0, .retAddr 0, .retAddr 0, .retAddr 0, .retAddr 0, .retAddr 0, .retAddr 0] [] (mk s) Q = _ := a4 Q
    have b2 := b2 Q
    rw [lz_0] at b2
    have b2 : am_Rn L xs d 105 133 [.ref 121, .int A, .int (nI (lz (kg t w M A B g) t.1)), .int 0, .int 0, .int 0, .retAddr 0, .retAddr 0, .retAddr 0, .retAddr 0] [] (mk s1) Q = _ := b2
    have c4 : am_Rn L xs d 105 280 [.ref 121, .int A, .int (nI (lz (kg t w M A B g) t.1)), .int (nI p), u4, .int 0, u6, u7, u8, u9] [] (mk s1) Q = _ := c4 Q
    simp only [e105, r105_0, r105_1, r105_2, r105_3, List.length_cons, List.length_nil, List.set_cons_succ, List.set_cons_zero, Nat.reduceAdd, Nat.reduceLT, Nat.reduceLeDiff, true_and]
    rw [a4]
    simp only [r105_125, r105_126, r105_127, r105_128, r105_130, r105_131, List.length_cons, List.length_nil, List.set_cons_succ, List.set_cons_zero, Nat.reduceAdd, Nat.reduceLT, Nat.reduceLeDiff, true_and]
    rw [b2]
    simp only [r105_277, r105_278, List.length_cons, List.length_nil, List.set_cons_succ, List.set_cons_zero, Nat.reduceAdd, Nat.reduceLT, Nat.reduceLeDiff, true_and]
    rw [c4]
theorem m_sc_fill {v2 v3 v4 v5 : Value} : ∀ (m i : Nat) (s : St), 12 - i = m → i ≤ 12 → (∀ x, x < i → s.1 134 x = 0) →
    ∃ s' : St, (∀ x, x < 12 → s'.1 134 x = 0) ∧ (∀ q, q ≠ 134 → s'.1 q = s.1 q) ∧ s'.2 = s.2 ∧ ∀ Q : Option Value → am_S → Prop, am_Rn L xs d 104 16 [.ref 121, .int (nI i), v2, v3, v4, v5] [] (mk s) Q = am_Rn L xs d 104 35 [.ref 121, .int (nI 12), v2, v3, v4, v5] [] (mk s') Q
  | 0, i, s, hm, hi, h0 => by
    have e : i = 12 := by omega
    subst e
    refine ⟨s, h0, fun _ _ => rfl, rfl, fun Q => ?_⟩
    have h1 : (12 : Int32) ≤ nI 12 := by decide
    rw [r104_16]
    simp only [r104_17, r104_19, am_li0, am_liS, h1, if_true]
  | m + 1, i, s, hm, hi, h0 => by
    have h1 : ¬ (12 : Int32) ≤ nI i := nI_ge (b := 12) (by omega) (by decide)
    have i1 : am_in (nI i) 12 = true := in_of (by omega) (by decide)
    have i2 : (nI i).toNatClampNeg = i := nI_clamp (by omega)
    generalize hs1 : ((va_up s.1 134 (upd (s.1 134) i 0), s.2) : St) = s1
    have f1 : ∀ q, q ≠ 134 → s1.1 q = s.1 q := fun q hq => by rw [← hs1]; exact up_ne _ _ hq
    have f2 : s1.1 134 = upd (s.1 134) i 0 := by rw [← hs1]; dsimp only; rw [up_same]
    have f3 : s1.2 = s.2 := by rw [← hs1]
    obtain ⟨s', q1, q2, q3, q4⟩ := m_sc_fill (v2 := v2) (v3 := v3) (v4 := v4) (v5 := v5) m (i + 1) s1 (by omega) (by omega) (fun x hx => by
      rw [f2]
      by_cases e : x = i
      · rw [e, upd_s]
      · rw [upd_n _ _ e]; exact h0 x (by omega))
    refine ⟨s', q1, fun q hq => (q2 q hq).trans (f1 q hq), q3.trans f3, fun Q => ?_⟩
    have nb0 : vp_nar .boolean 0 = 0 := rfl
    rw [← q4 Q, ← hs1, r104_16]
    simp only [r104_17, r104_19, r104_22, r104_23, r104_26, r104_27, r104_28, r104_29, r104_32, am_li0, am_liS, am_laR0, g121_12, w134, h1, i1, i2, nb0, nI_1, if_false, List.length_cons, List.length_nil, List.set_cons_succ, List.set_cons_zero, Nat.reduceAdd, Nat.reduceLT, Nat.reduceLeDiff, true_and]
def frT (s s' : St) : Prop := (∀ q, q ≠ 134 → q ≠ 137 → s'.1 q = s.1 q) ∧ s'.2 = s.2
theorem frT_M {s s' : St} (h : frT s s') : fzM s s' := ⟨fun q hq => h.1 q (by omega) (by omega), h.2⟩
theorem m_sc_settle {j j' : Nat} {t w : Tr} {M : Pr} {v2 v3 v4 v5 : Value} : ∀ (m i : Nat) (s : St) (X : Nat → Bool), t.1 - i = m → i ≤ t.1 → mD s j j' t w M → (∀ x, x < t.1 → s.1 134 x = bI (X x)) → sT t w M i X →
    ∃ (s' : St) (X' : Nat → Bool), (∀ x, x < t.1 → s'.1 134 x = bI (X' x)) ∧ sT t w M t.1 X' ∧ frT s s' ∧ ∀ Q : Option Value → am_S → Prop, am_Rn L xs (d + 1) 104 37 [.ref 121, .int (nI i), v2, v3, v4, v5] [] (mk s) Q = am_Rn L xs (d + 1) 104 61 [.ref 121, .int (nI t.1), v2, v3, v4, v5] [] (mk s') Q
  | 0, i, s, X, hm, hi, hD, hX, hT => by
    obtain ⟨hj, hj', q1, q2, q3, q4, hM, hp, hw, hw'⟩ := hD
    have e : i = t.1 := by omega
    subst e
    have h12 := hw.1
    refine ⟨s, X, hX, hT, ⟨fun _ _ _ => rfl, rfl⟩, fun Q => ?_⟩
    have h1 : nI t.1 ≤ nI t.1 := nI_le (Nat.le_refl _) (by omega)
    have k2 : am_in (nI j) 4 = true := in_of (by omega) (by decide)
    have k3 : (nI j).toNatClampNeg = j := nI_clamp (by omega)
    rw [r104_37]
    simp only [r104_38, r104_39, r104_42, r104_43, r104_46, r104_47, am_li0, am_liS, am_laR0, g121_0, g121_16, a122, q3, k2, k3, q1.1, h1, if_true, true_and]
  | m + 1, i, s, X, hm, hi, hD, hX, hT => by
    have hD' := hD
    obtain ⟨hj, hj', q1, q2, q3, q4, hM, hp, hw, hw'⟩ := hD
    have h12 := hw.1
    have h1 : ¬ nI t.1 ≤ nI i := nI_ge (by omega) (by omega)
    have k2 : am_in (nI j) 4 = true := in_of (by omega) (by decide)
    have k3 : (nI j).toNatClampNeg = j := nI_clamp (by omega)
    obtain ⟨s1, S, b1, b2, b3, b4, b5⟩ := m_settle (L := L) (xs := xs) (d := d) (A := nI i) (B := oI (M.1 i)) (g := (M.1 i).isSome) (Or.inr ⟨i, by omega, rfl, rfl, rfl⟩) hD' hX
    have f1 : frT s s1 := ⟨b3, b4⟩
    have nx : ∃ Y, (∀ x, x < t.1 → s1.1 134 x = bI (Y x)) ∧ sT t w M (i + 1) Y := by
      cases hy : M.1 i with
      | none => exact ⟨X, fun x hx => by rw [b2 x hx, hy]; rfl, sT_n hT hy⟩
      | some y =>
        rw [hy] at b1 b2
        exact ⟨xU t w M (nI i) (nI y) S X, fun x hx => by rw [b2 x hx]; rfl, sT_s hT (by omega) hy (b1 rfl)⟩
    obtain ⟨Y, y1, y2⟩ := nx
    obtain ⟨s', X', r1, r2, r3, r4⟩ := m_sc_settle (v2 := v2) (v3 := v3) (v4 := v4) (v5 := v5) m (i + 1) s1 Y (by omega) (by omega) (mD_fr (frT_M f1) hD') y1 y2
    refine ⟨s', X', r1, r2, ⟨fun q z1 z2 => (r3.1 q z1 z2).trans (b3 q z1 z2), r3.2.trans b4⟩, fun Q => ?_⟩
    rw [← r4 Q, r104_37]
    simp only [r104_38, r104_39, r104_42, r104_43, r104_46, r104_47, r104_50, r104_51, r104_52, r104_55, r104_58, am_li0, am_liS, am_laR0, am_tN, m_oc, b5, g121_0, g121_16, a122, q3, k2, k3, q1.1, h1, nI_1, if_false, am_okI, List.length_cons, List.length_nil, List.set_cons_succ, List.set_cons_zero, Nat.reduceAdd, Nat.reduceLT, Nat.zero_le, Nat.reduceLeDiff, and_true, true_and]
/-- the first part of script: who stays -/
theorem m_sc_first {j j' : Nat} {t w : Tr} {M : Pr} (hD : mD s j j' t w M) :
    ∃ (s' : St) (X : Nat → Bool), (∀ x, x < t.1 → s'.1 134 x = bI (X x)) ∧ sT t w M t.1 X ∧ s'.1 138 = upd (s.1 138) 0 0 ∧ s'.1 145 = upd (s.1 145) 0 0 ∧ (∀ q, q ≠ 134 → q ≠ 137 → q ≠ 138 → q ≠ 145 → s'.1 q = s.1 q) ∧ s'.2 = s.2 ∧ ∀ Q : Option Value → am_S → Prop, am_Call L xs (d + 1) 104 [.ref 121] (mk s) Q = am_Rn L xs (d + 1) 104 61 [.ref 121, .int (nI t.1), .retAddr 0, .retAddr 0, .retAddr 0, .retAddr 0] [] (mk s') Q := by
  generalize hs1 : ((va_up (va_up s.1 138 (upd (s.1 138) 0 0)) 145 (upd (s.1 145) 0 0), s.2) : St) = s1
  have f1 : ∀ q, q ≠ 138 → q ≠ 145 → s1.1 q = s.1 q := fun q n1 n2 => by rw [← hs1]; dsimp only; rw [up_ne _ _ n2, up_ne _ _ n1]
  have f2 : s1.1 138 = upd (s.1 138) 0 0 := by rw [← hs1]; dsimp only; rw [up_ne _ _ (by omega), up_same]
  have f3 : s1.1 145 = upd (s.1 145) 0 0 := by rw [← hs1]; dsimp only; rw [up_same]
  have f4 : s1.2 = s.2 := by rw [← hs1]
  have hD1 : mD s1 j j' t w M := mD_fr ⟨fun q hq => f1 q (by omega) (by omega), f4⟩ hD
  have h12 := hD.2.2.2.2.2.2.2.2.1.1
  obtain ⟨s2, a1, a2, a3, a4⟩ := m_sc_fill (L := L) (xs := xs) (d := d + 1) (v2 := .retAddr 0) (v3 := .retAddr 0) (v4 := .retAddr 0) (v5 := .retAddr 0) 12 0 s1 rfl (by omega) (fun x hx => absurd hx (Nat.not_lt_zero _))
  have hD2 : mD s2 j j' t w M := mD_fr ⟨fun q hq => a2 q (by omega), a3⟩ hD1
  obtain ⟨s3, S, b1, b2, b3, b4, b5⟩ := m_settle (L := L) (xs := xs) (d := d) (A := -1) (B := -1) (g := true) (X := fun _ => false) (Or.inl ⟨rfl, rfl, rfl⟩) hD2 (fun x hx => a1 x (by omega))
  have hD3 : mD s3 j j' t w M := mD_fr ⟨fun q hq => b3 q (by omega) (by omega), b4⟩ hD2
  obtain ⟨s4, X, c1, c2, c3, c4⟩ := m_sc_settle (L := L) (xs := xs) (d := d) (v2 := .retAddr 0) (v3 := .retAddr 0) (v4 := .retAddr 0) (v5 := .retAddr 0) t.1 0 s3 _ rfl (Nat.zero_le _) hD3 (fun x hx => by rw [b2 x hx, if_pos rfl]) (sT_0 (b1 rfl))
  refine ⟨s4, X, c1, c2, ?_, ?_, fun q n1 n2 n3 n4 => ?_, ?_, fun Q => ?_⟩
  · rw [c3.1 _ (by omega) (by omega), b3 _ (by omega) (by omega), a2 _ (by omega), f2]
  · rw [c3.1 _ (by omega) (by omega), b3 _ (by omega) (by omega), a2 _ (by omega), f3]
  · rw [c3.1 _ n1 n2, b3 _ n1 n2, a2 _ n1, f1 _ n3 n4]
  · rw [c3.2, b4, a3, f4]
  · have a4 : am_Rn L xs (d + 1) 104 16 [.ref 121, .int 0, .retAddr 0, .retAddr 0, .retAddr 0, .retAddr 0] [] (mk s1) Q = _ := a4 Q
    have c4 : am_Rn L xs (d + 1) 104 37 [.ref 121, .int 0, .retAddr 0, .retAddr 0, .retAddr 0, .retAddr 0] [] (mk s3) Q = _ := c4 Q
    obtain ⟨hj, hj', q1, q2, q3, q4, hM, hp, hw, hw'⟩ := hD2
    have h1 : ¬ nI t.1 ≤ -1 := fun q => by
      have e1 : (-1 : Int32).toInt = -1 := by decide
      rw [Int32.le_iff_toInt_le, nI_toInt (by omega), e1] at q
      omega
    have k2 : am_in (nI j) 4 = true := in_of (by omega) (by decide)
    have k3 : (nI j).toNatClampNeg = j := nI_clamp (by omega)
    have e0 : (-1 : Int32) + 1 = 0 := by decide
    have z1 : am_in 0 4 = true := by decide
    have z2 : (0 : Int32).toNatClampNeg = 0 := rfl
    have y1 : ∀ g : Nat → Int32, va_up s.1 138 g 145 = s.1 145 := fun g => up_ne _ _ (by omega)
    rw [← c4]
    have g16 : am_Call L xs (d + 1) 104 [.ref 121] (mk s) Q = am_Rn L xs (d + 1) 104 16 [.ref 121, .int 0, .retAddr 0, .retAddr 0, .retAddr 0, .retAddr 0] [] (mk s1) Q := by
      rw [← hs1]
      simp only [e104, r104_0, r104_1, r104_4, r104_5, r104_6, r104_7, r104_8, r104_11, r104_12, r104_13, r104_14, r104_15, am_li0, am_liS, am_laR0, g121_18, g121_25, w138, w145, z1, z2, y1, List.length_cons, List.length_nil, List.set_cons_succ, List.set_cons_zero, Nat.reduceAdd, Nat.reduceLT, Nat.reduceLeDiff, true_and]
    rw [g16, a4]
    simp only [r104_35, r104_36, List.length_cons, List.length_nil, List.set_cons_succ, List.set_cons_zero, Nat.reduceAdd, Nat.reduceLT, Nat.reduceLeDiff, true_and]
    rw [r104_37]
    simp only [r104_38, r104_39, r104_42, r104_43, r104_46, r104_47, r104_50, r104_51, r104_52, r104_55, r104_58, am_li0, am_liS, am_laR0, am_tN, m_oc, b5, g121_0, g121_16, a122, q3, k2, k3, q1.1, h1, e0, if_false, am_okI, List.length_cons, List.length_nil, List.set_cons_succ, List.set_cons_zero, Nat.reduceAdd, Nat.reduceLT, Nat.zero_le, Nat.reduceLeDiff, and_true, true_and]
end
