/-! The class: those that stay, taken -/
theorem le_pred {a b : Nat} (ha : a < 2 ^ 31) (hb : b < 2 ^ 31) : nI a ≤ nI b - 1 ↔ a < b := by
  match b with
  | 0 =>
    have e : nI 0 - 1 = -1 := by decide
    have e1 : (-1 : Int32).toInt = -1 := by decide
    rw [e, Int32.le_iff_toInt_le, nI_toInt ha, e1]
    constructor <;> intro h <;> omega
  | b + 1 =>
    rw [nI_pred]
    constructor
    · intro h
      refine Classical.byContradiction fun q => ?_
      exact nI_ge (show b < a by omega) ha h
    · exact fun h => nI_le (by omega) (by omega)
theorem vM_lt {t w : Tr} {M : Pr} {A B : Int32} (hp : pW t w M) {k : Nat} (h : k < lz (kn t w M A B) t.1) : ∃ y, M.1 (nth (kn t w M A B) t.1 k) = some y ∧ vM t w M A B k = y ∧ y < w.1 ∧ nth (kn t w M A B) t.1 k < t.1 := by
  obtain ⟨a1, a2, -⟩ := nth_ok _ h
  obtain ⟨-, y, a3, -⟩ := kn_iff.mp a2
  refine ⟨y, a3, ?_, (hp.1 _ _ a3).2, a1⟩
  unfold vM
  rw [a3]; rfl
theorem pM'_le {t w : Tr} {M : Pr} {A B : Int32} (hp : pW t w M) (hw' : tW w) {k : Nat} (h : k < lz (kn t w M A B) t.1) : pM' t w M A B k ≤ 12 := by
  obtain ⟨y, -, e, hy, -⟩ := vM_lt hp h
  have := cnt_le w.2.1 (w.2.1 y) y
  have := hw'.1
  unfold pM' pl
  rw [e]; omega
/-- in the row: who they are, where their partners stand -/
theorem gk_at {t w : Tr} {M : Pr} {A B : Int32} {D : Nat} {s : St} (h : gkA t w M A B D t.1 s) {k : Nat} (hk : k < lz (kn t w M A B) t.1) : s.1 (D + 22) k = nI (nth (kn t w M A B) t.1 k) ∧ s.1 (D + 23) k = nI (pM' t w M A B k) := by
  obtain ⟨a1, a2, a3⟩ := nth_ok _ hk
  have := h _ a1 a2
  rw [a3] at this
  exact this
def frH (D : Nat) (s s' : St) : Prop := (∀ q, ¬ (D + 21 ≤ q ∧ q ≤ D + 24) → s'.1 q = s.1 q) ∧ s'.2 = s.2
theorem frH_r (D : Nat) (s : St) : frH D s s := ⟨fun _ _ => rfl, rfl⟩
theorem frH_t {D : Nat} {s s1 s2 : St} (h : frH D s s1) (h' : frH D s1 s2) : frH D s s2 := ⟨fun q hq => (h'.1 q hq).trans (h.1 q hq), h'.2.trans h.2⟩
theorem frH_S {D : Nat} {s s' : St} (h : frH D s s') : frS D s s' := ⟨fun q hq => h.1 q (by omega), fun _ _ _ _ => by rw [h.2], by rw [h.2]⟩
/-- who stays: those of before, and those of the row that are taken -/
def xO (t w : Tr) (M : Pr) (A B : Int32) (G X : Nat → Bool) (x : Nat) : Bool := X x || (kn t w M A B x && G (lz (kn t w M A B) x))
def scA (t w : Tr) (M : Pr) (A B : Int32) (D : Nat) (R : Nat → Nat) (X G : Nat → Bool) (s : St) : Prop := gkA t w M A B D t.1 s ∧ (∀ k, k < lz (kn t w M A B) t.1 → s.1 (D + 24) k = nI (R k)) ∧ ∀ x, x < t.1 → s.1 (D + 21) x = bI (xO t w M A B G X x)
section
variable {L : Nat} {xs : Nat → Int32} {d : Nat} {s : St}
theorem c_sc_loop {D a b : Nat} {t w : Tr} {M : Pr} {A B : Int32} {R : Nat → Nat} {F : Nat} {X : Nat → Bool} (hR : lR (pM' t w M A B) (lz (kn t w M A B) t.1) 0 R) (hL : ∀ k, k < lz (kn t w M A B) t.1 → R k ≤ F) (hF : F ≤ 12) : ∀ (m i : Nat) (s : St) (due lp : Nat) (G : Nat → Bool), lz (kn t w M A B) t.1 - i = m → i ≤ lz (kn t w M A B) t.1 → cD s D a b t w M → scA t w M A B D R X G s → lJ (pM' t w M A B) (lz (kn t w M A B) t.1) R F i due lp G → lp ≤ 13 →
    ∃ (s' : St) (G' : Nat → Bool), lbst (pM' t w M A B) (lz (kn t w M A B) t.1) G' ∧ scA t w M A B D R X G' s' ∧ frH D s s' ∧ ∀ Q : Option Value → am_S → Prop, am_Rn L xs d 42 20 [.ref D, .int A, .int B, .int (nI (lz (kn t w M A B) t.1)), .int (nI due), .int (nI lp - 1), .int (nI i)] [] (mk s) Q = Q none (mk s') := by
  generalize hp' : pM' t w M A B = p at hR
  generalize hn : lz (kn t w M A B) t.1 = n at hR hL
  intro m
  induction m with
  | zero =>
    intro i s due lp G hm hi hD hS hJ hlp
    have e : i = n := by omega
    subst e
    have hn12 : i ≤ 12 := by rw [← hn]; have := lz_le (kn t w M A B) t.1; have := hD.2.2.2.2.2.2.2.2.2.2.1.1; omega
    refine ⟨s, G, lJ_e hR hL hJ, hS, frH_r D s, fun Q => ?_⟩
    have h1 : nI i ≤ nI i := nI_le (Nat.le_refl _) (by omega)
    rw [r42_20]
    simp only [r42_22, r42_23, r42_86, am_li0, am_liS, h1, if_true]
  | succ m ih =>
    intro i s due lp G hm hi hD hS hJ hlp
    have hD' := hD
    obtain ⟨hDD, hA, hB, hl, e6, e7, c1, c2, hM, hpw, hw, hw'⟩ := hD
    obtain ⟨s1, s2, s3⟩ := hS
    have h12 := hw.1
    have hn12 : n ≤ 12 := by rw [← hn]; have := lz_le (kn t w M A B) t.1; omega
    have h1 : ¬ nI n ≤ nI i := nI_ge (by omega) (by omega)
    match due with
    | 0 =>
      have hz := lJ_z hR (n - i) i rfl hi hJ
      refine ⟨s, G, lJ_e hR hL hz, ⟨s1, s2, s3⟩, frH_r D s, fun Q => ?_⟩
      have h2 : nI 0 ≤ 0 := by decide
      rw [r42_20]
      simp only [r42_22, r42_23, r42_26, r42_28, r42_86, am_li0, am_liS, h1, h2, if_true, if_false]
    | due + 1 =>
      have hdF : due + 1 ≤ F := by have := hJ.1; omega
      have h2 : ¬ nI (due + 1) ≤ 0 := nI_nle (by omega) (by omega)
      have i1 : am_in (nI i) 12 = true := in_of (by omega) (by decide)
      have i2 : (nI i).toNatClampNeg = i := nI_clamp (by omega)
      have hi' : i < lz (kn t w M A B) t.1 := by omega
      obtain ⟨r1, r2⟩ := gk_at s1 hi'
      rw [hp'] at r2
      have r3 := s2 i (by omega)
      have r4 := hL i (by omega)
      have r5 : p i ≤ 12 := by rw [← hp']; exact pM'_le hpw hw' hi'
      by_cases hT : R i = due + 1 ∧ lp ≤ p i
      · obtain ⟨t1, t2⟩ := hT
        obtain ⟨n1, n2, n3⟩ := nth_ok _ hi'
        generalize hx : nth (kn t w M A B) t.1 i = x at r1 n1 n2 n3
        have x1 : am_in (nI x) 12 = true := in_of (by omega) (by decide)
        have x2 : (nI x).toNatClampNeg = x := nI_clamp (by omega)
        have r6 : ¬ nI (p i) ≤ nI lp - 1 := fun q => by have := (le_pred (by omega) (by omega)).mp q; omega
        rw [t1] at r3
        generalize hs1 : ((va_up s.1 (D + 21) (upd (s.1 (D + 21)) x 1), s.2) : St) = z
        have f1 : frH D s z := by rw [← hs1]; exact ⟨fun q hq => up_ne _ _ (by omega), rfl⟩
        have f2 : ∀ q, q ≠ D + 21 → z.1 q = s.1 q := fun q hq => by rw [← hs1]; exact up_ne _ _ hq
        have f3 : z.1 (D + 21) = upd (s.1 (D + 21)) x 1 := by rw [← hs1]; dsimp only; rw [up_same]
        have hSz : scA t w M A B D R X (bU G i) z := by
          refine ⟨fun y hy hk => by rw [f2 _ (by omega), f2 _ (by omega)]; exact s1 y hy hk, fun k hk => by rw [f2 _ (by omega)]; exact s2 k (by omega), fun y hy => ?_⟩
          rw [f3]
          by_cases e : y = x
          · rw [e, upd_s]
            unfold xO
            rw [n2, n3, bU_s, Bool.and_self, Bool.or_true]; rfl
          · rw [upd_n _ _ e, s3 y hy]
            unfold xO
            congr 2
            cases hk : kn t w M A B y with
            | false => rfl
            | true =>
              have : lz (kn t w M A B) y ≠ i := fun q => by
                have := nth_at hy hk
                rw [q, hx] at this
                exact e this.symm
              rw [bU_n G this]
        obtain ⟨s', G', u1, u2, u3, u4⟩ := ih (i + 1) z due (p i + 1) (bU G i) (by omega) (by omega) (cD_fr (frH_S f1) hD') hSz (lJ_y hR hJ (by omega) t1 t2) (by omega)
        refine ⟨s', G', u1, u2, frH_t f1 u3, fun Q => ?_⟩
        have e9 : nI (due + 1) + -1 = nI due := pk_m1 due
        have nb1 : vp_nar .boolean 1 = 1 := rfl
        have y1 : ∀ g : Nat → Int32, va_up s.1 (D + 21) g (D + 23) = s.1 (D + 23) := fun g => up_ne _ _ (by omega)
        have u4 := u4 Q
        rw [nI_pred, ← hs1] at u4
        rw [← u4, r42_20]
        simp only [r42_22, r42_23, r42_26, r42_28, r42_31, r42_32, r42_35, r42_37, r42_38, r42_40, r42_43, r42_44, r42_47, r42_49, r42_50, r42_52, r42_55, r42_56, r42_59, r42_60, r42_63, r42_65, r42_66, r42_67, r42_68, r42_69, r42_72, r42_74, r42_75, r42_77, r42_80, r42_83, am_li0, am_liS, am_laR0, d_2 hDD, d_3 hDD, d_4 hDD, d_5 hDD, d_a3 hDD, d_a4 hDD, d_a5 hDD, d_w2 hDD, h1, h2, i1, i2, x1, x2, r1, r2, r3, r6, e9, nb1, y1, nI_1, not_true, if_false, List.length_cons, List.length_nil, List.set_cons_succ, List.set_cons_zero, Nat.reduceAdd, Nat.reduceLT, Nat.reduceLeDiff, true_and]
      · obtain ⟨s', G', u1, u2, u3, u4⟩ := ih (i + 1) s (due + 1) lp G (by omega) (by omega) hD' ⟨s1, s2, s3⟩ (lJ_n hR hJ (by omega) hT) hlp
        refine ⟨s', G', u1, u2, u3, fun Q => ?_⟩
        rw [← u4 Q, r42_20]
        by_cases t1 : R i = due + 1
        · have t2 : nI (p i) ≤ nI lp - 1 := (le_pred (by omega) (by omega)).mpr (Classical.byContradiction fun q => hT ⟨t1, by omega⟩)
          rw [t1] at r3
          simp only [r42_22, r42_23, r42_26, r42_28, r42_31, r42_32, r42_35, r42_37, r42_38, r42_40, r42_43, r42_44, r42_47, r42_49, r42_50, r42_52, r42_80, r42_83, am_li0, am_liS, am_laR0, d_4 hDD, d_5 hDD, d_a4 hDD, d_a5 hDD, h1, h2, i1, i2, r2, r3, t2, nI_1, not_true, if_true, if_false, List.length_cons, List.length_nil, List.set_cons_succ, List.set_cons_zero, Nat.reduceAdd, Nat.reduceLT, Nat.reduceLeDiff, true_and]
        · have t2 : ¬ nI (R i) = nI (due + 1) := fun q => t1 ((nI_eq (by omega) (by omega)).mp q)
          simp only [r42_22, r42_23, r42_26, r42_28, r42_31, r42_32, r42_35, r42_37, r42_38, r42_40, r42_80, r42_83, am_li0, am_liS, am_laR0, d_5 hDD, d_a5 hDD, h1, h2, i1, i2, r3, t2, nI_1, not_false_eq_true, if_true, if_false, List.length_cons, List.length_nil, List.set_cons_succ, List.set_cons_zero, Nat.reduceAdd, Nat.reduceLT, Nat.reduceLeDiff, true_and]
theorem c_settleChildren {D a b : Nat} {t w : Tr} {M : Pr} {A B : Int32} {X : Nat → Bool} (hD : cD s D a b t w M) (hX : ∀ x, x < t.1 → s.1 (D + 21) x = bI (X x)) (hf : ∀ x, x < t.1 → kn t w M A B x = true → X x = false) :
    ∃ (s' : St) (S : Nat → Bool), lbst (vM t w M A B) (lz (kn t w M A B) t.1) S ∧ (∀ x, x < t.1 → s'.1 (D + 21) x = bI (xU t w M A B S X x)) ∧ frH D s s' ∧ ∀ Q : Option Value → am_S → Prop, am_Call L xs (d + 2) 42 [.ref D, .int A, .int B] (mk s) Q = Q none (mk s') := by
  have hDD := hD.1
  have hpw : pW t w M := hD.2.2.2.2.2.2.2.2.2.1
  have hw : tW t := hD.2.2.2.2.2.2.2.2.2.2.1
  have hw' : tW w := hD.2.2.2.2.2.2.2.2.2.2.2
  have h12 := hw.1
  have hn12 := lz_le (kn t w M A B) t.1
  obtain ⟨s1, a1, a2, a3⟩ := c_gatherKept (L := L) (xs := xs) (d := d) (A := A) (B := B) hD
  obtain ⟨s2, R, F, b1, b2, b3, b4, b5, b6⟩ := c_measureReach (L := L) (xs := xs) (d := d) (s := s1) hDD (show lz (kn t w M A B) t.1 ≤ 12 by omega) (fun k hk => pM'_le hpw hw' hk) (fun k hk => (gk_at a1 hk).2)
  have f1 : frH D s s1 := ⟨fun q hq => a2.1 q (by omega) (by omega), a2.2⟩
  have f2 : frH D s1 s2 := ⟨fun q hq => b5.1 q (by omega), b5.2⟩
  have f12 := frH_t f1 f2
  have hS : scA t w M A B D R X (fun _ => false) s2 := by
    refine ⟨fun x hx hk => by rw [b5.1 _ (by omega), b5.1 _ (by omega)]; exact a1 x hx hk, fun k hk => b1.2.1 k (Nat.zero_le _) hk, fun x hx => ?_⟩
    rw [b5.1 _ (by omega), a2.1 _ (by omega) (by omega), hX x hx]
    unfold xO
    rw [Bool.and_false, Bool.or_false]
  obtain ⟨s3, G, g1, g2, g3, g4⟩ := c_sc_loop (L := L) (xs := xs) (d := d + 2) b1.2.2.1 b2 b4 _ 0 s2 F 0 (fun _ => false) rfl (Nat.zero_le _) (cD_fr (frH_S f12) hD) hS (lJ_0 b2 b3) (by omega)
  refine ⟨s3, G, lbst_pl g1, fun x hx => ?_, frH_t f12 g3, fun Q => ?_⟩
  · rw [g2.2.2 x hx]
    unfold xO xU
    by_cases hk : kn t w M A B x = true
    · rw [if_pos hk, hf x hx hk, hk]; rfl
    · rw [if_neg hk, Bool.eq_false_iff.mpr hk]
      cases X x <;> rfl
  · have g4 := g4 Q
    have e0 : nI 0 - 1 = -1 := by decide
    rw [e0] at g4
    rw [← g4]
    simp only [e42, r42_0, r42_1, r42_2, r42_3, r42_6, r42_7, r42_8, r42_9, r42_12, r42_14, r42_15, r42_17, r42_18, am_li0, am_liS, am_laR0, am_tL, d_oc hDD, a3, b6, am_okI, List.length_cons, List.length_nil, List.set_cons_succ, List.set_cons_zero, Nat.reduceAdd, Nat.reduceLT, Nat.zero_le, Nat.reduceLeDiff, and_true, true_and]
    rfl
theorem c_sa_fill {D a b : Nat} {t w : Tr} {M : Pr} : ∀ (m i : Nat) (s : St), t.1 - i = m → i ≤ t.1 → cD s D a b t w M → (∀ x, x < i → s.1 (D + 21) x = 0) →
    ∃ s' : St, (∀ x, x < t.1 → s'.1 (D + 21) x = 0) ∧ frH D s s' ∧ ∀ Q : Option Value → am_S → Prop, am_Rn L xs d 41 2 [.ref D, .int (nI i)] [] (mk s) Q = am_Rn L xs d 41 26 [.ref D, .int (nI t.1)] [] (mk s') Q
  | 0, i, s, hm, hi, hD, h0 => by
    have e : i = t.1 := by omega
    subst e
    have h12 := hD.2.2.2.2.2.2.2.2.2.2.1.1
    refine ⟨s, h0, frH_r D s, fun Q => ?_⟩
    have h1 : nI t.1 ≤ nI t.1 := nI_le (Nat.le_refl _) (by omega)
    rw [r41_2]
    simp only [r41_3, r41_4, r41_7, r41_10, am_li0, am_liS, am_laR0, d_6 hD.1, hD.2.2.2.2.1, f_used hD.2.1, hD.2.2.2.2.2.2.1.1, h1, if_true]
  | m + 1, i, s, hm, hi, hD, h0 => by
    have h12 := hD.2.2.2.2.2.2.2.2.2.2.1.1
    have h1 : ¬ nI t.1 ≤ nI i := nI_ge (by omega) (by omega)
    have i1 : am_in (nI i) 12 = true := in_of (by omega) (by decide)
    have i2 : (nI i).toNatClampNeg = i := nI_clamp (by omega)
    generalize hs1 : ((va_up s.1 (D + 21) (upd (s.1 (D + 21)) i 0), s.2) : St) = z
    have f1 : frH D s z := by rw [← hs1]; exact ⟨fun q hq => up_ne _ _ (by omega), rfl⟩
    have f3 : z.1 (D + 21) = upd (s.1 (D + 21)) i 0 := by rw [← hs1]; dsimp only; rw [up_same]
    obtain ⟨s', q1, q2, q3⟩ := c_sa_fill m (i + 1) z (by omega) (by omega) (cD_fr (frH_S f1) hD) (fun x hx => by
      rw [f3]
      by_cases e : x = i
      · rw [e, upd_s]
      · rw [upd_n _ _ e]; exact h0 x (by omega))
    refine ⟨s', q1, frH_t f1 q2, fun Q => ?_⟩
    have nb0 : vp_nar .boolean 0 = 0 := rfl
    rw [← q3 Q, ← hs1, r41_2]
    simp only [r41_3, r41_4, r41_7, r41_10, r41_13, r41_14, r41_17, r41_18, r41_19, r41_20, r41_23, am_li0, am_liS, am_laR0, d_2 hD.1, d_6 hD.1, d_w2 hD.1, hD.2.2.2.2.1, f_used hD.2.1, hD.2.2.2.2.2.2.1.1, h1, i1, i2, nb0, nI_1, if_false, List.length_cons, List.length_nil, List.set_cons_succ, List.set_cons_zero, Nat.reduceAdd, Nat.reduceLT, Nat.reduceLeDiff, true_and]
theorem c_sa_loop {D a b : Nat} {t w : Tr} {M : Pr} : ∀ (m i : Nat) (s : St) (X : Nat → Bool), t.1 - i = m → i ≤ t.1 → cD s D a b t w M → (∀ x, x < t.1 → s.1 (D + 21) x = bI (X x)) → sT t w M i X →
    ∃ (s' : St) (X' : Nat → Bool), (∀ x, x < t.1 → s'.1 (D + 21) x = bI (X' x)) ∧ sT t w M t.1 X' ∧ frH D s s' ∧ ∀ Q : Option Value → am_S → Prop, am_Rn L xs (d + 3) 41 34 [.ref D, .int (nI i)] [] (mk s) Q = Q none (mk s')
  | 0, i, s, X, hm, hi, hD, hX, hT => by
    have e : i = t.1 := by omega
    subst e
    have h12 := hD.2.2.2.2.2.2.2.2.2.2.1.1
    refine ⟨s, X, hX, hT, frH_r D s, fun Q => ?_⟩
    have h1 : nI t.1 ≤ nI t.1 := nI_le (Nat.le_refl _) (by omega)
    rw [r41_34]
    simp only [r41_35, r41_36, r41_39, r41_42, r41_76, am_li0, am_liS, am_laR0, d_6 hD.1, hD.2.2.2.2.1, f_used hD.2.1, hD.2.2.2.2.2.2.1.1, h1, if_true]
  | m + 1, i, s, X, hm, hi, hD, hX, hT => by
    have h12 := hD.2.2.2.2.2.2.2.2.2.2.1.1
    have h12' := hD.2.2.2.2.2.2.2.2.2.2.2.1
    have hPP : isP (D + 1) := hD.1.2.2.2.2.2.2
    have h1 : ¬ nI t.1 ≤ nI i := nI_ge (by omega) (by omega)
    have em : s.1 (D + 1 + 1) i = oI (M.1 i) := (hD.2.2.2.2.2.2.2.2.1 i (by omega)).1
    cases hy : M.1 i with
    | none =>
      rw [hy, oI_none] at em
      obtain ⟨s', X', q1, q2, q3, q4⟩ := c_sa_loop m (i + 1) s X (by omega) (by omega) hD hX (sT_n hT hy)
      refine ⟨s', X', q1, q2, q3, fun Q => ?_⟩
      rw [← q4 Q, r41_34]
      simp only [r41_35, r41_36, r41_39, r41_42, r41_45, r41_46, r41_49, r41_50, r41_53, r41_54, r41_70, r41_73, am_li0, am_liS, am_laR0, am_tL, d_0 hD.1, d_6 hD.1, p_oc hPP, c_partnerOf hPP (show i < 12 by omega), em, hD.2.2.2.2.1, f_used hD.2.1, hD.2.2.2.2.2.2.1.1, h1, nI_1, if_true, if_false, am_okI, List.length_cons, List.length_nil, List.set_cons_succ, List.set_cons_zero, Nat.reduceAdd, Nat.reduceLT, Nat.zero_le, Nat.reduceLeDiff, and_true, true_and]
    | some y =>
      rw [hy, oI_some] at em
      have hyw := (hD.2.2.2.2.2.2.2.2.2.1.1 i y hy).2
      have y3 : ¬ nI y = -1 := nI_m1 y (by omega)
      obtain ⟨s1, S, b1, b2, b3, b4⟩ := c_settleChildren (L := L) (xs := xs) (d := d) (A := nI i) (B := nI y) hD hX (fun x hx hk => sT_f hT (by omega) hx hk)
      obtain ⟨s', X', q1, q2, q3, q4⟩ := c_sa_loop m (i + 1) s1 (xU t w M (nI i) (nI y) S X) (by omega) (by omega) (cD_fr (frH_S b3) hD) b2 (sT_s hT (by omega) hy b1)
      refine ⟨s', X', q1, q2, frH_t b3 q3, fun Q => ?_⟩
      rw [← q4 Q, r41_34]
      simp only [r41_35, r41_36, r41_39, r41_42, r41_45, r41_46, r41_49, r41_50, r41_53, r41_54, r41_57, r41_58, r41_59, r41_60, r41_63, r41_64, r41_67, r41_70, r41_73, am_li0, am_liS, am_laR0, am_tL, am_tN, d_0 hD.1, d_6 hD.1, d_oc hD.1, p_oc hPP, c_partnerOf hPP (show i < 12 by omega), b4, em, y3, hD.2.2.2.2.1, f_used hD.2.1, hD.2.2.2.2.2.2.1.1, h1, nI_1, if_false, am_okI, List.length_cons, List.length_nil, List.set_cons_succ, List.set_cons_zero, Nat.reduceAdd, Nat.reduceLT, Nat.zero_le, Nat.reduceLeDiff, and_true, true_and]
theorem c_settleAll {D a b : Nat} {t w : Tr} {M : Pr} (hD : cD s D a b t w M) :
    ∃ (s' : St) (X : Nat → Bool), (∀ x, x < t.1 → s'.1 (D + 21) x = bI (X x)) ∧ sT t w M t.1 X ∧ frH D s s' ∧ ∀ Q : Option Value → am_S → Prop, am_Call L xs (d + 3) 41 [.ref D] (mk s) Q = Q none (mk s') := by
  obtain ⟨s1, a1, a2, a3⟩ := c_sa_fill (L := L) (xs := xs) (d := d + 3) t.1 0 s rfl (Nat.zero_le _) hD (fun x hx => absurd hx (Nat.not_lt_zero _))
  have hD1 := cD_fr (frH_S a2) hD
  obtain ⟨s2, S, b1, b2, b3, b4⟩ := c_settleChildren (L := L) (xs := xs) (d := d) (A := -1) (B := -1) (X := fun _ => false) hD1 (fun x hx => a1 x hx) (fun _ _ _ => rfl)
  obtain ⟨s', X', q1, q2, q3, q4⟩ := c_sa_loop (L := L) (xs := xs) (d := d) t.1 0 s2 _ rfl (Nat.zero_le _) (cD_fr (frH_S b3) hD1) b2 (sT_0 b1)
  refine ⟨s', X', q1, q2, frH_t a2 (frH_t b3 q3), fun Q => ?_⟩
  have a3 : am_Rn L xs (d + 3) 41 2 [.ref D, .int 0] [] (mk s) Q = _ := a3 Q
  have q4 : am_Rn L xs (d + 3) 41 34 [.ref D, .int 0] [] (mk s2) Q = _ := q4 Q
  rw [← q4]
  simp only [e41, r41_0, r41_1, List.length_cons, List.length_nil, List.set_cons_succ, List.set_cons_zero, Nat.reduceAdd, Nat.reduceLT, true_and]
  rw [a3]
  simp only [r41_26, r41_27, r41_28, r41_29, r41_32, r41_33, am_li0, am_liS, am_laR0, am_tN, am_okI, d_oc hD.1, b4, List.length_cons, List.length_nil, List.set_cons_succ, List.set_cons_zero, Nat.reduceAdd, Nat.reduceLT, Nat.zero_le, Nat.reduceLeDiff, and_true, true_and]
end
