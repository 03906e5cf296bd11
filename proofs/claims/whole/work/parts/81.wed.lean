/-! wed: the reference joins two alike twigs -/
theorem cnt_self {t : Tr} (hw : tW t) {x : Nat} (hx : x < t.1) : cnt t.2.1 (nI x) (x + 1) = 0 := by
  have h12 := hw.1
  have : ∀ n, n ≤ x + 1 → cnt t.2.1 (nI x) n = 0 := by
    intro n
    induction n with
    | zero => intro _; rfl
    | succ n ih =>
      intro hn
      rw [cnt_s, ih (by omega), if_neg]
      rcases hw.2 n (by omega) with ⟨-, e⟩ | ⟨m', hm', e⟩
      · rw [e]; exact fun q => nI_m1 x (by omega) q.symm
      · rw [e]
        intro q
        have := (nI_eq (by omega) (by omega)).mp q
        omega
  exact this _ (Nat.le_refl _)
/-- only mate and back have changed -/
def frW (s s' : St) : Prop := (∀ q, q ≠ 126 → q ≠ 127 → s'.1 q = s.1 q) ∧ s'.2 = s.2
theorem frW_refl (s : St) : frW s s := ⟨fun _ _ _ => rfl, rfl⟩
theorem frW_trans {s s' s'' : St} (h : frW s s') (h' : frW s' s'') : frW s s'' := ⟨fun q h1 h2 => (h'.1 q h1 h2).trans (h.1 q h1 h2), h'.2.trans h.2⟩
theorem frW_J (s : St) (g g' : Nat → Int32) : frW s (va_up (va_up s.1 126 g) 127 g', s.2) := ⟨fun q h1 h2 => by dsimp only; rw [up_ne _ _ h2, up_ne _ _ h1], rfl⟩
theorem mQ_fr {s s' : St} {j j' : Nat} {t w : Tr} {H : Nat → Nat} {M M' : Pr} (f : frW s s') (h1 : pM (s'.1 126) (s'.1 127) M') (h2 : pW t w M') (h : mQ s j j' t w H M) : mQ s' j j' t w H M' := by
  obtain ⟨⟨q1, q2, q3, q4, q5, q6, q7, q8⟩, hA, -, -, hw, hw'⟩ := h
  refine ⟨⟨q1, q2, mT_congr (fun q z1 z2 => f.1 q (by omega) (by omega)) q3, mT_congr (fun q z1 z2 => f.1 q (by omega) (by omega)) q4, by rw [f.2]; exact q5, by rw [f.2]; exact q6, q7, ?_⟩, ?_, h1, h2, hw, hw'⟩
  · unfold lkI
    rw [f.1 129 (by omega) (by omega), f.1 130 (by omega) (by omega), f.1 131 (by omega) (by omega), f.1 132 (by omega) (by omega), f.1 133 (by omega) (by omega)]
    exact q8
  · rw [f.1 128 (by omega) (by omega)]; exact hA
theorem mQ_J {s : St} {j j' : Nat} {t w : Tr} {H : Nat → Nat} {M : Pr} (h : mQ s j j' t w H M) {x y : Nat} (hx : x < t.1) (hy : y < w.1) : mQ (va_up (va_up s.1 126 (upd (s.1 126) x (nI y))) 127 (upd (s.1 127) y (nI x)), s.2) j j' t w H (pJ M x y) := by
  refine mQ_fr (frW_J _ _ _) ?_ (pJ_W h.2.2.2.1 hx hy) h
  dsimp only
  rw [up_same, up_ne _ _ (by omega), up_same]
  exact pJ_M h.2.2.1 x y
section
variable {L : Nat} {xs : Nat → Int32} {d : Nat} {s : St}
theorem m_wed_cnt {j j' : Nat} {t w : Tr} {H : Nat → Nat} {M : Pr} (hQ : mQ s j j' t w H M) {p i : Nat} (hi : i < t.1) (hp : p < i) {v1 v2 : Value} {Q : Option Value → am_S → Prop} : ∀ (m k : Nat), i - k = m → k ≤ i →
    am_Rn L xs d 100 62 [.ref 121, v1, v2, .int (nI i), .int (nI p), .int (nI (cnt t.2.1 (nI p) k)), .int (nI k)] [] (mk s) Q = am_Rn L xs d 100 104 [.ref 121, v1, v2, .int (nI i), .int (nI p), .int (nI (cnt t.2.1 (nI p) i)), .int (nI i)] [] (mk s) Q
  | 0, k, hm, hk => by
    have h12 := hQ.2.2.2.2.1.1
    have e : k = i := by omega
    subst e
    have h1 : nI k ≤ nI k := nI_le (Nat.le_refl _) (by omega)
    rw [r100_62]
    simp only [r100_64, r100_65, am_li0, am_liS, h1, if_true]
  | m + 1, k, hm, hk => by
    have ih := m_wed_cnt hQ hi hp (v1 := v1) (v2 := v2) (Q := Q) m (k + 1) (by omega) (by omega)
    obtain ⟨⟨h, h', m1, m2, q1, q2, hH, hI⟩, hA, hM, hpw, hw, hw'⟩ := hQ
    have h12 := hw.1
    have h1 : ¬ nI i ≤ nI k := nI_ge (by omega) (by omega)
    have f1 : (12 : Int32) * nI j + nI k = nI (12 * j + k) := by
      show nI 12 * nI j + nI k = _
      rw [pk_mul, nI_add]
    have h6 : am_in (nI (12 * j + k)) 48 = true := in_of (by omega) (by decide)
    have h7 : (nI (12 * j + k)).toNatClampNeg = 12 * j + k := nI_clamp (by omega)
    have h8 := (m1.2 k (by omega)).1
    have z0 : ∀ m : Nat, nI m + 0 = nI m := fun m => Int32.add_zero _
    rw [← ih, r100_62]
    by_cases e : t.2.1 k = nI p
    · have ec : cnt t.2.1 (nI p) (k + 1) = cnt t.2.1 (nI p) k + 1 := by rw [cnt_s, if_pos e]
      rw [ec]
      simp only [r100_64, r100_65, r100_68, r100_70, r100_71, r100_74, r100_76, r100_77, r100_80, r100_81, r100_83, r100_84, r100_85, r100_87, r100_90, r100_91, r100_95, r100_96, r100_98, r100_101, am_li0, am_liS, am_laR0, g121_1, g121_16, a123, q1, f1, h1, h6, h7, h8, e, nI_1, not_true, if_false, List.length_cons, List.length_nil, List.set_cons_succ, List.set_cons_zero, Nat.reduceAdd, Nat.reduceLT, true_and]
    · have ec : cnt t.2.1 (nI p) (k + 1) = cnt t.2.1 (nI p) k := by rw [cnt_s, if_neg e]; rfl
      rw [ec]
      simp only [r100_64, r100_65, r100_68, r100_70, r100_71, r100_74, r100_76, r100_77, r100_80, r100_81, r100_83, r100_84, r100_85, r100_87, r100_94, r100_95, r100_96, r100_98, r100_101, am_li0, am_liS, am_laR0, g121_1, g121_16, a123, q1, f1, h1, h6, h7, h8, e, z0, nI_1, not_false_eq_true, if_true, if_false, List.length_cons, List.length_nil, List.set_cons_succ, List.set_cons_zero, Nat.reduceAdd, Nat.reduceLT, true_and]
/-- the twins among the first i -/
def tw (t w : Tr) (x y i n v : Nat) : Prop := n < i ∧ n < t.1 ∧ cr t w x y n = some v
theorem m_wed_loop {j j' : Nat} {t w : Tr} {H : Nat → Nat} {M : Pr} {x y : Nat} (hw : tW t) (hw' : tW w) (hx : x < t.1) (hy : y < w.1) (ha : alN t w x y = true) : ∀ (m i : Nat) (s : St) (M1 : Pr) (v4 v5 v6 : Value), t.1 - i = m → i ≤ t.1 → x < i → mQ s j j' t w H M1 → jS (tw t w x y i) M M1 →
    ∃ (s' : St) (M' : Pr), mQ s' j j' t w H M' ∧ frW s s' ∧ jS (tw t w x y t.1) M M' ∧ ∀ Q : Option Value → am_S → Prop, am_Rn L xs (d + 1) 100 10 [.ref 121, .int (nI x), .int (nI y), .int (nI i), v4, v5, v6] [] (mk s) Q = Q none (mk s')
  | 0, i, s, M1, v4, v5, v6, hm, hi, hxi, hQ, hj => by
    have h12 := hw.1
    have e : i = t.1 := by omega
    subst e
    refine ⟨s, M1, hQ, frW_refl s, hj, fun Q => ?_⟩
    obtain ⟨⟨h, h', m1, m2, q1, q2, hH, hI⟩, hA, hM, hpw, -, -⟩ := hQ
    have h1 : nI t.1 ≤ nI t.1 := nI_le (Nat.le_refl _) (by omega)
    have h2 : am_in (nI j) 4 = true := in_of (by omega) (by decide)
    have h3 : (nI j).toNatClampNeg = j := nI_clamp (by omega)
    rw [r100_10]
    simp only [r100_11, r100_12, r100_15, r100_16, r100_19, r100_20, r100_132, am_li0, am_liS, am_laR0, g121_0, g121_16, a122, q1, h2, h3, m1.1, h1, if_true, true_and]
  | m + 1, i, s, M1, v4, v5, v6, hm, hi, hxi, hQ, hj => by
    have h12 := hw.1
    have h12' := hw'.1
    have hQ' := hQ
    obtain ⟨⟨h, h', m1, m2, q1, q2, hH, hI⟩, hA, hM, hpw, -, -⟩ := hQ
    have h1 : ¬ nI t.1 ≤ nI i := nI_ge (by omega) (by omega)
    have h2 : am_in (nI j) 4 = true := in_of (by omega) (by decide)
    have h3 : (nI j).toNatClampNeg = j := nI_clamp (by omega)
    have e1 : (12 : Int32) * nI x + nI i = nI (12 * x + i) := by
      show nI 12 * nI x + nI i = _
      rw [pk_mul, nI_add]
    have k1 : am_in (nI (12 * x + i)) 144 = true := in_of (by omega) (by decide)
    have k2 : (nI (12 * x + i)).toNatClampNeg = 12 * x + i := nI_clamp (by omega)
    have l1 : s.1 129 (12 * x + i) = bI (bl t x i) := by
      rw [(hI.1 x i (by omega) (by omega) (by omega)).1]
      unfold LF
      rw [decide_eq_true (by omega), Bool.true_and]
    have b0 : bI false = 0 := rfl
    have b1 : bI true = 1 := rfl
    have n1 : ¬ (1 : Int32) = 0 := by decide
    cases hb : bl t x i with
    | false =>
      rw [hb, b0] at l1
      have hj' : jS (tw t w x y (i + 1)) M M1 := jS_iff hj (fun n v => by
        unfold tw
        refine ⟨fun q => ⟨by omega, q.2⟩, fun q => ⟨?_, q.2⟩⟩
        by_cases e : n = i
        · rcases cr_bl hw hw' hy n v q.2.1 q.2.2 with z | z
          · omega
          · rw [e, hb] at z; exact absurd z Bool.false_ne_true
        · omega)
      obtain ⟨s', M', r1, r2, r3, r4⟩ := m_wed_loop (j := j) (j' := j') (H := H) hw hw' hx hy ha m (i + 1) s M1 v4 v5 v6 (by omega) (by omega) (by omega) hQ' hj'
      refine ⟨s', M', r1, r2, r3, fun Q => ?_⟩
      rw [← r4 Q, r100_10]
      simp only [r100_11, r100_12, r100_15, r100_16, r100_19, r100_20, r100_23, r100_24, r100_27, r100_29, r100_30, r100_31, r100_32, r100_33, r100_34, r100_126, r100_129, am_li0, am_liS, am_laR0, g121_0, g121_7, g121_16, a122, a129, q1, h2, h3, k1, k2, e1, m1.1, h1, l1, nI_1, if_true, if_false, List.set_cons_succ, List.set_cons_zero, true_and]
    | true =>
      rw [hb, b1] at l1
      have hpl := pm_lt t (show 0 < i by omega)
      have hpe := pm_eq hw (show 0 < i by omega) (show i < t.1 by omega)
      obtain ⟨q, c1, c2, c3⟩ := cr_al hw hw' hx hy ha (pm t i) (by omega) ((bl_iff (by omega)).mp hb)
      obtain ⟨v, d1, d2, d3⟩ := cr_al hw hw' hx hy ha i (by omega) (Or.inr hb)
      have hkd : kd w q (cnt t.2.1 (nI (pm t i)) i) = some v := by
        rw [cr_gt t w hxi, c1] at d1
        exact d1
      have hm1 : M1.1 (pm t i) = some q := (hj.1 (pm t i) q ⟨hpl, by omega, c1⟩).1
      have hj' : jS (tw t w x y (i + 1)) M (pJ M1 i v) := jS_iff (jS_J hj (fun v' q => by
          have := q.1
          omega) (fun n q => cr_inj hw hw' hy n i v q.2.1 (by omega) q.2.2 d1)) (fun n v' => by
        unfold tw
        constructor
        · rintro (z | ⟨rfl, rfl⟩)
          · exact ⟨by omega, z.2⟩
          · exact ⟨by omega, by omega, d1⟩
        · intro z
          by_cases e : n = i
          · refine Or.inr ⟨e, ?_⟩
            rw [e, d1] at z
            exact (Option.some.inj z.2.2).symm
          · exact Or.inl ⟨by omega, z.2⟩)
      obtain ⟨s', M', r1, r2, r3, r4⟩ := m_wed_loop (j := j) (j' := j') (H := H) hw hw' hx hy ha m (i + 1) _ (pJ M1 i v) (.int (nI (pm t i))) (.int (nI (cnt t.2.1 (nI (pm t i)) i))) (.int (nI i)) (by omega) (by omega) (by omega) (mQ_J hQ' (show i < t.1 by omega) d2) hj'
      refine ⟨s', M', r1, frW_trans (frW_J _ _ _) r2, r3, fun Q => ?_⟩
      have f1 : (12 : Int32) * nI j + nI i = nI (12 * j + i) := by
        show nI 12 * nI j + nI i = _
        rw [pk_mul, nI_add]
      have h6 : am_in (nI (12 * j + i)) 48 = true := in_of (by omega) (by decide)
      have h7 : (nI (12 * j + i)).toNatClampNeg = 12 * j + i := nI_clamp (by omega)
      have h8 : s.1 123 (12 * j + i) = nI (pm t i) := (m1.2 i (by omega)).1.trans hpe
      have hc := m_wed_cnt (L := L) (xs := xs) (d := d + 1) hQ' (show i < t.1 by omega) hpl (v1 := .int (nI x)) (v2 := .int (nI y)) (Q := Q) (i - (pm t i + 1)) (pm t i + 1) rfl (by omega)
      rw [cnt_self hw (show pm t i < t.1 by omega)] at hc
      have hc : am_Rn L xs (d + 1) 100 62 [.ref 121, .int (nI x), .int (nI y), .int (nI i), .int (nI (pm t i)), .int 0, .int (nI (pm t i + 1))] [] (mk s) Q = _ := hc
      rw [← r4 Q, r100_10]
      simp only [r100_11, r100_12, r100_15, r100_16, r100_19, r100_20, r100_23, r100_24, r100_27, r100_29, r100_30, r100_31, r100_32, r100_33, r100_34, r100_37, r100_38, r100_41, r100_43, r100_44, r100_47, r100_48, r100_49, r100_50, r100_51, r100_53, r100_54, r100_56, r100_58, r100_59, r100_60, am_li0, am_liS, am_laR0, g121_0, g121_1, g121_7, g121_16, a122, a123, a129, q1, h2, h3, h6, h7, h8, k1, k2, e1, f1, m1.1, h1, l1, n1, nI_1, if_false, List.length_cons, List.length_nil, List.set_cons_succ, List.set_cons_zero, Nat.reduceAdd, Nat.reduceLT, true_and]
      rw [hc]
      have p1 : am_in (nI (pm t i)) 12 = true := in_of (by omega) (by decide)
      have p2 : (nI (pm t i)).toNatClampNeg = pm t i := nI_clamp (by omega)
      have em : s.1 126 (pm t i) = nI q := by rw [(hM (pm t i) (by omega)).1, hm1]; rfl
      have hch := fun Q => m_child (L := L) (xs := xs) (d := d) (s := s) h' m2 hw' (x := q) (k := cnt t.2.1 (nI (pm t i)) i) c2 (cnt12 hw (by omega) _) (Q := Q)
      rw [hkd, oI_some] at hch
      have hmr := fun Q => m_marry (L := L) (xs := xs) (d := d) (s := s) (x := i) (y := v) (by omega) (by omega) (Q := Q)
      simp only [r100_104, r100_105, r100_106, r100_107, r100_108, r100_111, r100_112, r100_115, r100_117, r100_118, r100_120, r100_123, r100_126, r100_129, am_li0, am_liS, am_laR0, m_oc, g121_4, g121_17, a126, q2, p1, p2, em, hch, hmr, nI_1, am_tL, am_tN, am_okI, List.length_cons, List.length_nil, List.set_cons_succ, List.set_cons_zero, Nat.reduceAdd, Nat.reduceLeDiff, Nat.zero_le, and_true, true_and]
theorem m_wed {j j' : Nat} {t w : Tr} {H : Nat → Nat} {M : Pr} {x y : Nat} (hQ : mQ s j j' t w H M) (hx : x < t.1) (hy : y < w.1) (ha : alN t w x y = true) :
    ∃ (s' : St) (M' : Pr), mQ s' j j' t w H M' ∧ frW s s' ∧ jS (tw t w x y t.1) M M' ∧ ∀ Q : Option Value → am_S → Prop, am_Call L xs (d + 1) 100 [.ref 121, .int (nI x), .int (nI y)] (mk s) Q = Q none (mk s') := by
  have hw := hQ.2.2.2.2.1
  have hw' := hQ.2.2.2.2.2
  have h12 := hw.1
  have h12' := hw'.1
  have hj : jS (tw t w x y (x + 1)) M (pJ M x y) := jS_iff (jS_J (jS_0 M) (fun v q => q.elim) (fun n q => q.elim)) (fun n v => by
    unfold tw
    constructor
    · rintro (z | ⟨rfl, rfl⟩)
      · exact z.elim
      · exact ⟨by omega, hx, cr_x t w _ _⟩
    · intro z
      refine Or.inr ?_
      by_cases e : n = x
      · rw [e, cr_x] at z
        exact ⟨e, (Option.some.inj z.2.2).symm⟩
      · rw [cr_lt t w (by omega)] at z
        exact absurd z.2.2 (by simp))
  obtain ⟨s', M', r1, r2, r3, r4⟩ := m_wed_loop (L := L) (xs := xs) (d := d) (j := j) (j' := j') (H := H) hw hw' hx hy ha (t.1 - (x + 1)) (x + 1) _ (pJ M x y) (.retAddr 0) (.retAddr 0) (.retAddr 0) rfl (by omega) (by omega) (mQ_J hQ hx hy) hj
  refine ⟨s', M', r1, frW_trans (frW_J _ _ _) r2, r3, fun Q => ?_⟩
  rw [← r4 Q]
  have hmr := fun Q => m_marry (L := L) (xs := xs) (d := d) (s := s) (x := x) (y := y) (by omega) (by omega) (Q := Q)
  simp only [e100, r100_0, r100_1, r100_2, r100_3, r100_6, r100_7, r100_8, r100_9, am_li0, am_liS, am_laR0, m_oc, hmr, nI_1, am_tN, am_okI, List.length_cons, List.length_nil, List.set_cons_succ, List.set_cons_zero, Nat.reduceAdd, Nat.reduceLT, Nat.zero_le, and_true, true_and]
end
