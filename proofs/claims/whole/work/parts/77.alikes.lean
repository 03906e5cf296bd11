/-! Partners: markAlikes, areFreeAlikes, shareOfParents, join -/
/-- from, to and the heights are at hand -/
def cK (s : St) (P a b : Nat) (t w : Tr) (H : Nat → Nat) : Prop := isP P ∧ isF a 12 ∧ isF b 12 ∧ (a + 5 ≤ P ∧ b + 5 ≤ P) ∧ s.2.2 P 6 = a ∧ s.2.2 P 7 = b ∧ cT s a t ∧ cT s b w ∧ hP t H ∧ ∀ n, n < 12 → s.1 (P + 3) n = nI (H n)
theorem cK_up {s : St} {P a b k : Nat} {t w : Tr} {H : Nat → Nat} {g : Nat → Int32} (hk : 0 < k) (hk3 : k ≠ 3) (h : cK s P a b t w H) : cK (va_up s.1 (P + k) g, s.2) P a b t w H := by
  obtain ⟨h1, h2, h3, ⟨h4, h4'⟩, h5, h6, h7, h8, h9, h10⟩ := h
  refine ⟨h1, h2, h3, ⟨h4, h4'⟩, h5, h6, cT_congr (fun q q1 q2 => up_ne _ _ (by omega)) rfl h7, cT_congr (fun q q1 q2 => up_ne _ _ (by omega)) rfl h8, h9, fun n hn => ?_⟩
  dsimp only
  rw [up_ne _ _ (by omega)]
  exact h10 n hn
/-- a mask of those alike to a, among the first y -/
def akR (t w : Tr) (H : Nat → Nat) (a y : Nat) (v : Int32) : Prop := ∃ k, v = nI k ∧ k < 4096 ∧ ∀ b, k.testBit b = true ↔ (b < y ∧ 2 ≤ H a ∧ alN t w a b = true)
section
variable {L : Nat} {xs : Nat → Int32} {d : Nat} {s : St}
theorem c_sameT {a b : Nat} {t w : Tr} (hF : isF a 12) (hG : isF b 12) (hc : cT s a t) (hc' : cT s b w) (hw : tW t) (hw' : tW w) {x y : Nat} (hx : x < t.1) (hy : y < w.1) {Q : Option Value → am_S → Prop} :
    am_Call L xs (d + 42) 20 [.ref a, .int (nI x), .ref b, .int (nI y), .int 0] (mk s) Q = Q (some (.int (bI (alN t w x y)))) (mk s) := by
  have h12 := hw.1
  have h12' := hw'.1
  have e : alN t w x y = alkG (foS s a t.1) (foS s b w.1) 41 (nI x) (nI y) := by
    rw [alkG_tree hc hw hc' hw' 41 x y hx hy]
    exact alk_fuel hw 12 41 x y hx (by omega) (by omega)
  rw [e]
  exact c_sameTwig (L := L) (xs := xs) hF (by decide) hc.1 (by omega) hG (by decide) hc'.1 (by omega) 41 0 d (nI x) (nI y) Q rfl
theorem c_ma_in {P a b : Nat} {t w : Tr} {H : Nat → Nat} (hw : tW t) (hw' : tW w) {x : Nat} (hx : x < t.1) : ∀ (m y : Nat) (s : St), cK s P a b t w H → w.1 - y = m → y ≤ w.1 → akR t w H x y (s.1 (P + 6) x) →
    ∃ (g : Nat → Int32) (v2 : Value), akR t w H x w.1 (g x) ∧ (∀ n, n ≠ x → g n = s.1 (P + 6) n) ∧ ∀ Q : Option Value → am_S → Prop, am_Rn L xs (d + 43) 27 22 [.ref P, .int (nI x), .int (nI y)] [] (mk s) Q = am_Rn L xs (d + 43) 27 78 [.ref P, .int (nI x), v2] [] (mk (va_up s.1 (P + 6) g, s.2)) Q
  | 0, y, s, hK, hm, hy, hr => by
    have h12' := hw'.1
    obtain ⟨hP, hA, hB, -, g1, g2, c1, c2, -, hh⟩ := hK
    have e : y = w.1 := by omega
    subst e
    have h1 : nI w.1 ≤ nI w.1 := nI_le (Nat.le_refl _) (by omega)
    refine ⟨s.1 (P + 6), .int (nI w.1), hr, fun _ _ => rfl, fun Q => ?_⟩
    rw [up_self, r27_22]
    simp only [r27_23, r27_24, r27_27, r27_30, am_li0, am_liS, am_laR0, p_7 hP, g2, f_used hB, c2.1, h1, if_true]
  | m + 1, y, s, hK, hm, hy, hr => by
    have h12 := hw.1
    have h12' := hw'.1
    have hK' := hK
    obtain ⟨hP, hA, hB, -, g1, g2, c1, c2, hH, hh⟩ := hK
    have hHx := hH.2.2.2 x hx
    have h1 : ¬ nI w.1 ≤ nI y := nI_ge (by omega) (by omega)
    have x1 : am_in (nI x) 12 = true := in_of (by omega) (by decide)
    have x2 : (nI x).toNatClampNeg = x := nI_clamp (by omega)
    have e3 := hh x (by omega)
    obtain ⟨k, k1, k2, k3⟩ := hr
    by_cases h2 : 2 ≤ H x
    · have h3 : ¬ nI (H x) < 2 := nI_nlt (a := H x) (b := 2) h2 (by omega)
      have hs := fun Q => c_sameT (L := L) (xs := xs) (d := d) (s := s) hA hB c1 c2 hw hw' hx (show y < w.1 by omega) (Q := Q)
      have b0 : bI false = 0 := rfl
      have b1 : bI true = 1 := rfl
      have n1 : ¬ (1 : Int32) = 0 := by decide
      cases hb : alN t w x y with
      | false =>
        rw [hb, b0] at hs
        obtain ⟨g, v2, r1, r2, r3⟩ := c_ma_in hw hw' hx m (y + 1) s hK' (by omega) (by omega) ⟨k, k1, k2, fun b => (k3 b).trans ⟨fun q => ⟨by omega, q.2⟩, fun q => ⟨by
          by_cases e : b = y
          · rw [e, hb] at q; exact absurd q.2.2 Bool.false_ne_true
          · omega, q.2⟩⟩⟩
        refine ⟨g, v2, r1, r2, fun Q => ?_⟩
        rw [← r3 Q, r27_22]
        simp only [r27_23, r27_24, r27_27, r27_30, r27_33, r27_34, r27_37, r27_38, r27_39, r27_40, r27_43, r27_44, r27_47, r27_48, r27_49, r27_52, r27_53, r27_54, r27_57, r27_72, r27_75, am_li0, am_liS, am_laR0, p_2 hP, p_6 hP, p_7 hP, p_a3 hP, g1, g2, f_used hB, c2.1, h1, x1, x2, e3, h3, hs, nI_1, am_tL, am_okI, am_okR, if_true, if_false, List.length_cons, List.length_nil, List.set_cons_succ, List.set_cons_zero, Nat.reduceAdd, Nat.reduceLeDiff, Nat.zero_le, and_true, true_and]
      | true =>
        rw [hb, b1] at hs
        have p2 : 2 ^ y < 4096 := Nat.pow_lt_pow_right (by decide) (show y < 12 by omega)
        have o1 : k ||| 2 ^ y < 4096 := Nat.or_lt_two_pow (n := 12) k2 p2
        have q1 : nI k ||| nI (2 ^ y) = nI (k ||| 2 ^ y) := nI_or (by omega) (by omega)
        have q2 : (1 : Int32) <<< (nI y &&& 31) = nI (2 ^ y) := nI_shl (by omega)
        obtain ⟨g, v2, r1, r2, r3⟩ := c_ma_in hw hw' hx m (y + 1) (va_up s.1 (P + 6) (upd (s.1 (P + 6)) x (nI (k ||| 2 ^ y))), s.2) (cK_up (by decide) (by decide) hK') (by omega) (by omega) (by
          dsimp only
          rw [up_same, upd_s]
          refine ⟨_, rfl, o1, fun b => ?_⟩
          rw [Nat.testBit_or, Nat.testBit_two_pow, Bool.or_eq_true, k3, decide_eq_true_iff]
          constructor
          · rintro (q | q)
            · exact ⟨by omega, q.2⟩
            · rw [← q]; exact ⟨by omega, h2, hb⟩
          · intro q
            by_cases e : b = y
            · exact Or.inr e.symm
            · exact Or.inl ⟨by omega, q.2⟩)
        refine ⟨g, v2, r1, fun n hn => ?_, fun Q => ?_⟩
        · rw [r2 n hn]
          dsimp only
          rw [up_same, upd_n _ _ hn]
        · have r3 := r3 Q
          dsimp only at r3
          rw [up_up] at r3
          rw [← r3, r27_22]
          simp only [r27_23, r27_24, r27_27, r27_30, r27_33, r27_34, r27_37, r27_38, r27_39, r27_40, r27_43, r27_44, r27_47, r27_48, r27_49, r27_52, r27_53, r27_54, r27_57, r27_60, r27_61, r27_64, r27_65, r27_66, r27_67, r27_68, r27_69, r27_70, r27_71, r27_72, r27_75, am_li0, am_liS, am_laR0, p_2 hP, p_5 hP, p_6 hP, p_7 hP, p_a3 hP, p_a6 hP, p_w6 hP, g1, g2, f_used hB, c2.1, h1, x1, x2, e3, h3, hs, k1, q1, q2, n1, nI_1, am_tL, am_okI, am_okR, Bool.and_self, if_true, if_false, List.length_cons, List.length_nil, List.set_cons_succ, List.set_cons_zero, Nat.reduceAdd, Nat.reduceLeDiff, Nat.zero_le, and_true, true_and]
    · have h3 : nI (H x) < 2 := nI_lt (b := 2) (by omega) (by decide)
      refine ⟨s.1 (P + 6), .int (nI y), ⟨k, k1, k2, fun b => (k3 b).trans ⟨fun q => absurd q.2.1 h2, fun q => absurd q.2.1 h2⟩⟩, fun _ _ => rfl, fun Q => ?_⟩
      rw [up_self, r27_22]
      simp only [r27_23, r27_24, r27_27, r27_30, r27_33, r27_34, r27_37, r27_38, r27_39, r27_40, am_li0, am_liS, am_laR0, p_2 hP, p_7 hP, p_a3 hP, g2, f_used hB, c2.1, h1, x1, x2, e3, h3, if_true, if_false, true_and]
theorem c_ma_out {P a b : Nat} {t w : Tr} {H : Nat → Nat} (hw : tW t) (hw' : tW w) : ∀ (m x : Nat) (s : St) (v2 : Value), cK s P a b t w H → t.1 - x = m → x ≤ t.1 → (∀ n, n < x → akR t w H n w.1 (s.1 (P + 6) n)) →
    ∃ g : Nat → Int32, (∀ n, n < t.1 → akR t w H n w.1 (g n)) ∧ ∀ Q : Option Value → am_S → Prop, am_Rn L xs (d + 43) 27 2 [.ref P, .int (nI x), v2] [] (mk s) Q = Q none (mk (va_up s.1 (P + 6) g, s.2))
  | 0, x, s, v2, hK, hm, hx, hr => by
    have h12 := hw.1
    obtain ⟨hP, hA, hB, -, g1, g2, c1, c2, -, hh⟩ := hK
    have e : x = t.1 := by omega
    subst e
    have h1 : nI t.1 ≤ nI t.1 := nI_le (Nat.le_refl _) (by omega)
    refine ⟨s.1 (P + 6), hr, fun Q => ?_⟩
    rw [up_self, r27_2]
    simp only [r27_3, r27_4, r27_7, r27_10, r27_84, am_li0, am_liS, am_laR0, p_6 hP, g1, f_used hA, c1.1, h1, if_true]
  | m + 1, x, s, v2, hK, hm, hx, hr => by
    have h12 := hw.1
    have h12' := hw'.1
    have hK1 : cK (va_up s.1 (P + 6) (upd (s.1 (P + 6)) x 0), s.2) P a b t w H := cK_up (by decide) (by decide) hK
    obtain ⟨g, v2', r1, r2, r3⟩ := c_ma_in (L := L) (xs := xs) (d := d) hw hw' (show x < t.1 by omega) w.1 0 _ hK1 (by omega) (by omega) (by
      dsimp only
      rw [up_same, upd_s]
      exact ⟨0, rfl, by decide, fun b => by
        rw [Nat.zero_testBit]
        exact ⟨fun q => absurd q Bool.false_ne_true, fun q => absurd q.1 (Nat.not_lt_zero _)⟩⟩)
    have hK2 : cK (va_up s.1 (P + 6) g, s.2) P a b t w H := cK_up (by decide) (by decide) hK
    obtain ⟨g2, u1, u2⟩ := c_ma_out hw hw' m (x + 1) (va_up s.1 (P + 6) g, s.2) v2' hK2 (by omega) (by omega) (fun n hn => by
      dsimp only
      rw [up_same]
      by_cases e : n = x
      · rw [e]; exact r1
      · rw [r2 n e]
        dsimp only
        rw [up_same, upd_n _ _ e]
        exact hr n (by omega))
    refine ⟨g2, u1, fun Q => ?_⟩
    have u2 := u2 Q
    have r3 := r3 Q
    dsimp only at u2 r3
    rw [up_up] at u2 r3
    obtain ⟨hP, hA, hB, -, g1, g2', c1, c2, -, hh⟩ := hK
    have h1 : ¬ nI t.1 ≤ nI x := nI_ge (by omega) (by omega)
    have x1 : am_in (nI x) 12 = true := in_of (by omega) (by decide)
    have x2 : (nI x).toNatClampNeg = x := nI_clamp (by omega)
    have r3 : am_Rn L xs (d + 43) 27 22 [.ref P, .int (nI x), .int 0] [] (mk (va_up s.1 (P + 6) (upd (s.1 (P + 6)) x 0), s.2)) Q = _ := r3
    have e78 : am_Rn L xs (d + 43) 27 78 [.ref P, .int (nI x), v2'] [] (mk (va_up s.1 (P + 6) g, s.2)) Q = am_Rn L xs (d + 43) 27 2 [.ref P, .int (nI (x + 1)), v2'] [] (mk (va_up s.1 (P + 6) g, s.2)) Q := by
      simp only [r27_78, r27_81, am_li0, am_liS, nI_1, List.set_cons_succ, List.set_cons_zero]
    rw [← u2, ← e78, ← r3, r27_2]
    simp only [r27_3, r27_4, r27_7, r27_10, r27_13, r27_14, r27_17, r27_18, r27_19, r27_20, r27_21, am_li0, am_liS, am_laR0, p_5 hP, p_6 hP, p_w6 hP, g1, f_used hA, c1.1, h1, x1, x2, if_false, List.length_cons, List.length_nil, List.set_cons_succ, List.set_cons_zero, Nat.reduceAdd, Nat.reduceLT, true_and]
theorem c_markAlikes {P a b : Nat} {t w : Tr} {H : Nat → Nat} (hK : cK s P a b t w H) (hw : tW t) (hw' : tW w) : ∃ g : Nat → Int32, (∀ n, n < t.1 → akR t w H n w.1 (g n)) ∧
    ∀ Q : Option Value → am_S → Prop, am_Call L xs (d + 43) 27 [.ref P] (mk s) Q = Q none (mk (va_up s.1 (P + 6) g, s.2)) := by
  obtain ⟨g, u1, u2⟩ := c_ma_out (L := L) (xs := xs) (d := d) hw hw' t.1 0 s (.retAddr 0) hK (by omega) (by omega) (fun n hn => by omega)
  refine ⟨g, u1, fun Q => ?_⟩
  rw [← u2 Q]
  simp only [e27, r27_0, r27_1, List.length_cons, List.length_nil, List.set_cons_succ, List.set_cons_zero, Nat.reduceAdd, Nat.reduceLT, true_and]
  rfl
variable {Q : Option Value → am_S → Prop}
/-- x and y are alike, high and free -/
def frA (t w : Tr) (H : Nat → Nat) (M : Pr) (x y : Nat) : Bool := decide (2 ≤ H x) && alN t w x y && (M.1 x).isNone && (M.2 y).isNone
theorem c_free {P : Nat} {t w : Tr} {H : Nat → Nat} {M : Pr} (hP : isP P) (hw : tW t) (hw' : tW w) (hM : pM (s.1 (P + 1)) (s.1 (P + 2)) M) (hp : pW t w M) {x y : Nat} (hx : x < t.1) (hy : y < w.1) (ha : akR t w H x w.1 (s.1 (P + 6) x)) :
    am_Call L xs d 29 [.ref P, .int (nI x), .int (nI y)] (mk s) Q = Q (some (.int (bI (frA t w H M x y)))) (mk s) := by
  have h12 := hw.1
  have h12' := hw'.1
  have x1 : am_in (nI x) 12 = true := in_of (by omega) (by decide)
  have x2 : (nI x).toNatClampNeg = x := nI_clamp (by omega)
  have y1 : am_in (nI y) 12 = true := in_of (by omega) (by decide)
  have y2 : (nI y).toNatClampNeg = y := nI_clamp (by omega)
  have n1 : ¬ (1 : Int32) = 0 := by decide
  have b0 : bI false = 0 := rfl
  have b1 : bI true = 1 := rfl
  obtain ⟨k, k1, k2, k3⟩ := ha
  have e1 : s.1 (P + 6) x >>> (nI y &&& 31) &&& 1 = bI (k.testBit y) := by rw [k1, nI_bit (by omega) (by omega)]
  have em := (hM x (by omega)).1
  have eo := (hM y (by omega)).2
  cases hb : k.testBit y with
  | false =>
    have hf : frA t w H M x y = false := by
      have : ¬ (2 ≤ H x ∧ alN t w x y = true) := fun q => by
        have := (k3 y).mpr ⟨hy, q⟩
        rw [hb] at this
        exact Bool.false_ne_true this
      unfold frA
      cases h2 : alN t w x y with
      | false => simp only [Bool.and_false, Bool.false_and]
      | true =>
        rw [decide_eq_false (fun q => this ⟨q, h2⟩)]
        simp only [Bool.false_and]
    rw [hb, b0] at e1
    simp only [e29, r29_0, r29_1, r29_4, r29_5, r29_6, r29_7, r29_8, r29_9, r29_10, r29_37, r29_38, am_li0, am_liS, am_laR0, p_5 hP, p_a6 hP, x1, x2, e1, hf, b0, if_true, true_or, eq_self, true_and]
  | true =>
    obtain ⟨-, q1, q2⟩ := (k3 y).mp hb
    rw [hb, b1] at e1
    cases hv : M.1 x with
    | some v =>
      have hv12 := (hp.1 x v hv).2
      have hf : frA t w H M x y = false := by
        unfold frA
        rw [hv]; simp only [Option.isNone_some, Bool.and_false, Bool.false_and]
      rw [hv, oI_some] at em
      have ne : ¬ nI v = -1 := nI_m1 v (by omega)
      simp only [e29, r29_0, r29_1, r29_4, r29_5, r29_6, r29_7, r29_8, r29_9, r29_10, r29_13, r29_14, r29_17, r29_18, r29_19, r29_20, r29_37, r29_38, am_li0, am_liS, am_laR0, p_0 hP, p_5 hP, p_a1 hP, p_a6 hP, x1, x2, e1, em, ne, n1, hf, b0, not_false_eq_true, if_true, if_false, true_or, eq_self, true_and]
    | none =>
      rw [hv, oI_none] at em
      cases hu : M.2 y with
      | some v =>
        have hv12 := (hp.2 y v hu).2
        have hf : frA t w H M x y = false := by
          unfold frA
          rw [hu]; simp only [Option.isNone_some, Bool.and_false]
        rw [hu, oI_some] at eo
        have ne : ¬ nI v = -1 := nI_m1 v (by omega)
        simp only [e29, r29_0, r29_1, r29_4, r29_5, r29_6, r29_7, r29_8, r29_9, r29_10, r29_13, r29_14, r29_17, r29_18, r29_19, r29_20, r29_23, r29_24, r29_27, r29_28, r29_29, r29_30, r29_37, r29_38, am_li0, am_liS, am_laR0, p_0 hP, p_1 hP, p_5 hP, p_a1 hP, p_a2 hP, p_a6 hP, x1, x2, y1, y2, e1, em, eo, ne, n1, hf, b0, not_true, not_false_eq_true, if_true, if_false, true_or, eq_self, true_and]
      | none =>
        have hf : frA t w H M x y = true := by
          unfold frA
          rw [hu, hv, q2, decide_eq_true q1]; rfl
        rw [hu, oI_none] at eo
        simp only [e29, r29_0, r29_1, r29_4, r29_5, r29_6, r29_7, r29_8, r29_9, r29_10, r29_13, r29_14, r29_17, r29_18, r29_19, r29_20, r29_23, r29_24, r29_27, r29_28, r29_29, r29_30, r29_33, r29_34, r29_37, r29_38, am_li0, am_liS, am_laR0, p_0 hP, p_1 hP, p_5 hP, p_a1 hP, p_a2 hP, p_a6 hP, x1, x2, y1, y2, e1, em, eo, n1, hf, b1, not_true, if_false, or_true, eq_self, true_and]
/-- what the parents share -/
def shP (t w : Tr) (M : Pr) (x y : Nat) : Nat := if x = 0 ∨ y = 0 then 0 else sh t w M.1 (pm t x) (pm w y) t.1
theorem c_shareOfParents {P a b : Nat} {t w : Tr} {M : Pr} (hL : cL s P a b t w) (hw : tW t) (hw' : tW w) (hM : pM (s.1 (P + 1)) (s.1 (P + 2)) M) (hp : pW t w M) {x y : Nat} (hx : x < t.1) (hy : y < w.1) :
    am_Call L xs (d + 1) 30 [.ref P, .int (nI x), .int (nI y)] (mk s) Q = Q (some (.int (nI (shP t w M x y)))) (mk s) := by
  have h12 := hw.1
  have h12' := hw'.1
  have z : nI 0 = 0 := rfl
  by_cases hx0 : x = 0
  · have e : shP t w M x y = 0 := if_pos (Or.inl hx0)
    have e1 : nI x = 0 := by rw [hx0]; rfl
    rw [e, z]
    simp only [e30, r30_0, r30_1, r30_8, r30_9, r30_34, am_li0, am_liS, e1, if_true]
  · have e1 : ¬ nI x = 0 := nI_ne0 (by omega) (by omega)
    by_cases hy0 : y = 0
    · have e : shP t w M x y = 0 := if_pos (Or.inr hy0)
      have e2 : nI y = 0 := by rw [hy0]; rfl
      rw [e, z]
      simp only [e30, r30_0, r30_1, r30_4, r30_5, r30_8, r30_9, r30_34, am_li0, am_liS, e1, e2, not_true, if_false]
    · have e : shP t w M x y = sh t w M.1 (pm t x) (pm w y) t.1 := if_neg (by omega)
      have e2 : ¬ nI y = 0 := nI_ne0 (by omega) (by omega)
      have x1 : am_in (nI x) 12 = true := in_of (by omega) (by decide)
      have x2 : (nI x).toNatClampNeg = x := nI_clamp (by omega)
      have y1 : am_in (nI y) 12 = true := in_of (by omega) (by decide)
      have y2 : (nI y).toNatClampNeg = y := nI_clamp (by omega)
      have px := pm_lt t (show 0 < x by omega)
      have py := pm_lt w (show 0 < y by omega)
      have hsh := fun Q => c_share (L := L) (xs := xs) (d := d) (Q := Q) hL hw hw' hM hp (x := pm t x) (y := pm w y) (by omega) (by omega)
      obtain ⟨hP, hA, hB, g1, g2, c1, c2, -, -⟩ := hL
      have p1 : s.1 (a + 1) x = nI (pm t x) := (c1.2.1 x hx).1.trans (pm_eq hw (by omega) hx)
      have p2 : s.1 (b + 1) y = nI (pm w y) := (c2.2.1 y hy).1.trans (pm_eq hw' (by omega) hy)
      rw [e]
      simp only [e30, r30_0, r30_1, r30_4, r30_5, r30_12, r30_13, r30_14, r30_17, r30_20, r30_21, r30_22, r30_23, r30_26, r30_29, r30_30, r30_31, r30_34, am_li0, am_liS, am_laR0, p_oc hP, p_6 hP, p_7 hP, g1, g2, f_par hA, f_par hB, fa_par hA, fa_par hB, x1, x2, y1, y2, p1, p2, hsh, e1, e2, am_tL, am_okI, not_false_eq_true, if_true, if_false, List.length_cons, List.length_nil, Nat.zero_le, and_true, true_and]
/-- x and y become partners -/
def pJ (M : Pr) (x y : Nat) : Pr := (fun n => if n = x then some y else M.1 n, fun n => if n = y then some x else M.2 n)
theorem pJ_W {t w : Tr} {M : Pr} (hp : pW t w M) {x y : Nat} (hx : x < t.1) (hy : y < w.1) : pW t w (pJ M x y) := by
  refine ⟨fun n v h => ?_, fun v n h => ?_⟩
  · unfold pJ at h
    dsimp only at h
    by_cases e : n = x
    · rw [if_pos e] at h; cases h; exact ⟨by omega, hy⟩
    · rw [if_neg e] at h; exact hp.1 n v h
  · unfold pJ at h
    dsimp only at h
    by_cases e : v = y
    · rw [if_pos e] at h; cases h; exact ⟨by omega, hx⟩
    · rw [if_neg e] at h; exact hp.2 v n h
theorem pJ_M {g1 g2 : Nat → Int32} {M : Pr} (h : pM g1 g2 M) (x y : Nat) : pM (upd g1 x (nI y)) (upd g2 y (nI x)) (pJ M x y) := by
  intro n hn
  unfold pJ upd
  dsimp only
  refine ⟨?_, ?_⟩
  · split
    · rfl
    · exact (h n hn).1
  · split
    · rfl
    · exact (h n hn).2
theorem c_join {P : Nat} (hP : isP P) {x y : Nat} (hx : x < 12) (hy : y < 12) : am_Call L xs d 33 [.ref P, .int (nI x), .int (nI y)] (mk s) Q = Q none (mk (va_up (va_up s.1 (P + 1) (upd (s.1 (P + 1)) x (nI y))) (P + 2) (upd (s.1 (P + 2)) y (nI x)), s.2)) := by
  have x1 : am_in (nI x) 12 = true := in_of (by omega) (by decide)
  have x2 : (nI x).toNatClampNeg = x := nI_clamp (by omega)
  have y1 : am_in (nI y) 12 = true := in_of (by omega) (by decide)
  have y2 : (nI y).toNatClampNeg = y := nI_clamp (by omega)
  have e : va_up s.1 (P + 1) (upd (s.1 (P + 1)) x (nI y)) (P + 2) = s.1 (P + 2) := up_ne _ _ (by omega)
  simp only [e33, r33_0, r33_1, r33_4, r33_5, r33_6, r33_7, r33_8, r33_11, r33_12, r33_13, r33_14, am_li0, am_liS, am_laR0, p_0 hP, p_1 hP, p_w1 hP, p_w2 hP, x1, x2, y1, y2, e, true_and]
theorem m_marry {x y : Nat} (hx : x < 12) (hy : y < 12) : am_Call L xs d 101 [.ref 121, .int (nI x), .int (nI y)] (mk s) Q = Q none (mk (va_up (va_up s.1 126 (upd (s.1 126) x (nI y))) 127 (upd (s.1 127) y (nI x)), s.2)) := by
  have x1 : am_in (nI x) 12 = true := in_of (by omega) (by decide)
  have x2 : (nI x).toNatClampNeg = x := nI_clamp (by omega)
  have y1 : am_in (nI y) 12 = true := in_of (by omega) (by decide)
  have y2 : (nI y).toNatClampNeg = y := nI_clamp (by omega)
  have e : va_up s.1 126 (upd (s.1 126) x (nI y)) 127 = s.1 127 := up_ne _ _ (by omega)
  simp only [e101, r101_0, r101_1, r101_4, r101_5, r101_6, r101_7, r101_8, r101_11, r101_12, r101_13, r101_14, am_li0, am_liS, am_laR0, g121_4, g121_5, w126, w127, x1, x2, y1, y2, e, true_and]
end
