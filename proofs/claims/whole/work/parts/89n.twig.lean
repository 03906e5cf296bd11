/-! The class writes the steps of a twig, the DELETEs; a Difference, whole -/
def frI (D : Nat) (s s' : St) : Prop := (∀ q, ¬ (D + 15 ≤ q ∧ q ≤ D + 20) → s'.1 q = s.1 q) ∧ (∀ q k, ¬ (q = D ∧ k = 8) → ¬ (q = D + 13 ∧ k = 1) → s'.2.1 q k = s.2.1 q k) ∧ s'.2.2 = s.2.2
theorem frI_r (D : Nat) (s : St) : frI D s s := ⟨fun _ _ => rfl, fun _ _ _ _ => rfl, rfl⟩
theorem frI_t {D : Nat} {s s1 s2 : St} (h : frI D s s1) (h' : frI D s1 s2) : frI D s s2 := ⟨fun q hq => (h'.1 q hq).trans (h.1 q hq), fun q k h1 h2 => (h'.2.1 q k h1 h2).trans (h.2.1 q k h1 h2), h'.2.2.trans h.2.2⟩
theorem frV_I {D : Nat} {s s' : St} (h : frV D s s') : frI D s s' := ⟨h.1, fun q k _ h2 => h.2.1 q k h2, h.2.2⟩
theorem frI_S {D : Nat} {s s' : St} (h : frI D s s') : frS D s s' := ⟨fun q hq => h.1 q (by omega), h.2.1, h.2.2⟩
/-- where the class stands when it writes -/
def cE (s : St) (D a b : Nat) (t w : Tr) (M : Pr) (X : Nat → Bool) (Z : Zs) : Prop := isE D ∧ cD s D a b t w M ∧ (∀ x, x < t.1 → s.1 (D + 21) x = bI (X x)) ∧ sc s D Z.1 ∧ s.2.1 D 8 = nI Z.2
/-- a step more -/
theorem cE_V {s s' : St} {D a b : Nat} {t w : Tr} {M : Pr} {X : Nat → Bool} {Z : Zs} {l : List Sp} (h : cE s D a b t w M X Z) (f : frV D s s') (hl : sc s' D l) : cE s' D a b t w M X (l, Z.2) := by
  obtain ⟨h1, h2, h3, h4, h5⟩ := h
  exact ⟨h1, cD_fr (frV_S f) h2, fun x hx => by rw [f.1 _ (by omega)]; exact h3 x hx, hl, by rw [f.2.1 D 8 (by omega)]; exact h5⟩
section
variable {L : Nat} {xs : Nat → Int32} {d : Nat}
theorem d_v8' {s : St} {D : Nat} (h : isD D) {y o : Nat} {x : Int32} {f : am_S → Prop} : am_wf y o (mk s) D 4 8 (.int x) f = f (mk (w2 s D 8 x)) := d_v8 h
theorem c_writeNode {s : St} {D a b : Nat} {t w : Tr} {M : Pr} {X : Nat → Bool} {Z : Zs} (hE : cE s D a b t w M X Z) {y : Nat} (hy : y < w.1) (p q : Int32) (hl : (cwN t w M X y p q Z).1.length ≤ 24) :
    ∃ s' : St, cE s' D a b t w M X (cwN t w M X y p q Z) ∧ frI D s s' ∧ ∀ Q : Option Value → am_S → Prop, am_Call L xs (d + 2) 48 [.ref D, .int (nI y), .int p, .int q] (mk s) Q = Q (some (.int (cpO t Z.2 (M.2 y)))) (mk s') := by
  have hE' := hE
  obtain ⟨hDE, hD, hX, hs, hi⟩ := hE
  obtain ⟨hDD, hA, hB, hlt, e6, e7, c1, c2, hM, hp, hw, hw'⟩ := hD
  have hPP : isP (D + 1) := hDD.2.2.2.2.2.2
  have h12 := hw.1
  have h12' := hw'.1
  have y1 : am_in (nI y) 12 = true := in_of (by omega) (by decide)
  have y2 : (nI y).toNatClampNeg = y := nI_clamp (by omega)
  have eo : s.1 (D + 1 + 2) y = oI (M.2 y) := (hM y (by omega)).2
  have ty := (c2.2.1 y hy).2.2.1
  have ly := (c2.2.1 y hy).2.2.2
  unfold cwN at hl ⊢
  cases ho : M.2 y with
  | none =>
    rw [ho, oI_none] at eo
    rw [stO_n, inO_n, cpO_n]
    rw [ho, stO_n] at hl
    generalize hs1 : w2 s D 8 (nI (Z.2 + 1)) = s1
    have f1 : frI D s s1 := by rw [← hs1]; exact ⟨fun _ _ => rfl, fun q k h1 h2 => w2_o _ _ h1, rfl⟩
    have sc1 : sc s1 D Z.1 := by
      rw [← hs1]
      exact ⟨by rw [w2_o _ _ (by omega)]; exact hs.1, fun k p hk j hj => hs.2 k p hk j hj⟩
    obtain ⟨s', a1, a2, a3⟩ := c_insertNode (L := L) (xs := xs) (d := d) hDE sc1 (by rw [List.length_append, List.length_cons, List.length_nil] at hl; omega) (nI (t.1 + Z.2)) p q (w.2.2.1 y) (w.2.2.2 y)
    have hE1 : cE s1 D a b t w M X (Z.1, Z.2 + 1) := ⟨hDE, cD_fr (frI_S f1) hE'.2.1, fun x hx => by rw [f1.1 _ (by omega)]; exact hX x hx, sc1, by rw [← hs1, w2_a]⟩
    refine ⟨s', cE_V hE1 a2 a1, frI_t f1 (frV_I a2), fun Q => ?_⟩
    have g2 := c1.1
    have g7 : s1.2.2 D 7 = b := by rw [← hs1]; exact e7
    have t1 : s1.1 (b + 3) y = w.2.2.1 y := by rw [← hs1]; exact ty
    have t2 : s1.1 (b + 4) y = w.2.2.2 y := by rw [← hs1]; exact ly
    have m1 : ¬ ¬ (-1 : Int32) = -1 := by decide
    simp only [e48, r48_0, r48_1, r48_4, r48_5, r48_8, r48_10, r48_12, r48_13, r48_16, r48_17, r48_20, r48_23, r48_24, r48_27, r48_28, r48_30, r48_31, r48_32, r48_35, r48_36, r48_37, r48_40, r48_41, r48_44, r48_46, r48_47, r48_48, r48_49, r48_52, r48_55, r48_56, r48_57, r48_58, r48_61, r48_64, r48_65, r48_66, r48_69, r48_71, am_li0, am_liS, am_laR0, am_laS, am_tL, am_tN, p_oc hPP, s_oc hDE, c_ownerOf hPP (show y < 12 by omega), d_0 hDD, d_1 hDD, d_6 hDD, d_7 hDD, d_8 hDD, d_v8' hDD, eo, e6, e7, f_used hA, f_typ hB, fa_typ hB, f_lab hB, fa_lab hB, g2, hi, nI_add, nI_1, hs1, g7, t1, t2, y1, y2, a3, not_true, if_false, am_okI, am_okR, List.length_cons, List.length_nil, List.set_cons_succ, List.set_cons_zero, Nat.reduceAdd, Nat.reduceLT, Nat.zero_le, Nat.reduceLeDiff, and_true, true_and]
  | some x =>
    have hx := (hp.2 y x ho).2
    rw [ho, oI_some] at eo
    rw [stO_s, inO_s, cpO_s, Nat.add_zero]
    rw [ho, stO_s] at hl
    have x1 : am_in (nI x) 12 = true := in_of (by omega) (by decide)
    have x2 : (nI x).toNatClampNeg = x := nI_clamp (by omega)
    have x3 : ¬ nI x = -1 := nI_m1 x (by omega)
    have lx := (c1.2.1 x hx).2.2.2
    -- the label
    have hu : ∃ s1 : St, cE s1 D a b t w M X (Z.1 ++ (if t.2.2.2 x = w.2.2.2 y then [] else [(1, nI x, -1, -1, -1, w.2.2.2 y)]), Z.2) ∧ frI D s s1 ∧ ∀ Q : Option Value → am_S → Prop, am_Call L xs (d + 2) 48 [.ref D, .int (nI y), .int p, .int q] (mk s) Q = am_Rn L xs (d + 2) 48 112 [.ref D, .int (nI y), .int p, .int q, .int (nI x), .retAddr 0] [] (mk s1) Q := by
      by_cases hlab : t.2.2.2 x = w.2.2.2 y
      · rw [if_pos hlab, List.append_nil]
        refine ⟨s, hE', frI_r D s, fun Q => ?_⟩
        rw [hlab] at lx
        simp only [e48, r48_0, r48_1, r48_4, r48_5, r48_8, r48_10, r48_12, r48_13, r48_72, r48_73, r48_76, r48_79, r48_81, r48_82, r48_83, r48_86, r48_89, r48_90, r48_91, am_li0, am_liS, am_laR0, am_laS, am_tL, p_oc hPP, c_ownerOf hPP (show y < 12 by omega), d_0 hDD, d_6 hDD, d_7 hDD, eo, e6, e7, f_lab hA, fa_lab hA, f_lab hB, fa_lab hB, x1, x2, x3, y1, y2, lx, ly, not_false_eq_true, if_true, am_okI, am_okR, List.length_cons, List.length_nil, List.set_cons_succ, List.set_cons_zero, Nat.reduceAdd, Nat.reduceLT, Nat.zero_le, Nat.reduceLeDiff, and_true, true_and]
      · rw [if_neg hlab]
        rw [if_neg hlab, List.length_append, List.length_append, List.length_cons, List.length_nil] at hl
        obtain ⟨s1, a1, a2, a3⟩ := c_updateNode (L := L) (xs := xs) (d := d) hDE hs (by omega) (nI x) (w.2.2.2 y)
        refine ⟨s1, cE_V hE' a2 a1, frV_I a2, fun Q => ?_⟩
        simp only [e48, r48_0, r48_1, r48_4, r48_5, r48_8, r48_10, r48_12, r48_13, r48_72, r48_73, r48_76, r48_79, r48_81, r48_82, r48_83, r48_86, r48_89, r48_90, r48_91, r48_94, r48_95, r48_98, r48_100, r48_101, r48_104, r48_107, r48_108, r48_109, am_li0, am_liS, am_laR0, am_laS, am_tL, am_tN, p_oc hPP, s_oc hDE, c_ownerOf hPP (show y < 12 by omega), d_0 hDD, d_1 hDD, d_6 hDD, d_7 hDD, eo, e6, e7, f_lab hA, fa_lab hA, f_lab hB, fa_lab hB, x1, x2, x3, y1, y2, lx, ly, hlab, a3, not_false_eq_true, if_true, if_false, am_okI, am_okR, List.length_cons, List.length_nil, List.set_cons_succ, List.set_cons_zero, Nat.reduceAdd, Nat.reduceLT, Nat.zero_le, Nat.reduceLeDiff, and_true, true_and]
    obtain ⟨s1, u1, u2, u3⟩ := hu
    have xs1 := u1.2.2.1 x hx
    rw [← List.append_assoc]
    rw [← List.append_assoc] at hl
    generalize Z.1 ++ (if t.2.2.2 x = w.2.2.2 y then [] else [(1, nI x, -1, -1, -1, w.2.2.2 y)]) = l1 at hl u1 ⊢
    cases hXx : X x with
    | true =>
      rw [if_pos rfl, List.append_nil]
      rw [hXx] at xs1
      have n1 : ¬ bI true = 0 := by decide
      refine ⟨s1, u1, u2, fun Q => ?_⟩
      rw [u3 Q]
      simp only [r48_112, r48_113, r48_116, r48_118, r48_119, r48_133, r48_135, am_li0, am_liS, am_laR0, d_2 hDD, d_a2 hDD, x1, x2, xs1, n1, not_false_eq_true, if_true, true_and]
    | false =>
      rw [if_neg (by decide)]
      rw [hXx, if_neg (by decide), List.length_append, List.length_cons, List.length_nil] at hl
      rw [hXx] at xs1
      have n0 : bI false = 0 := rfl
      obtain ⟨s2, a1, a2, a3⟩ := c_moveNode (L := L) (xs := xs) (d := d) hDE u1.2.2.2.1 (by dsimp only; omega) (nI x) p q
      refine ⟨s2, cE_V (Z := (l1, Z.2)) u1 a2 a1, frI_t u2 (frV_I a2), fun Q => ?_⟩
      rw [u3 Q]
      simp only [r48_112, r48_113, r48_116, r48_118, r48_119, r48_122, r48_123, r48_126, r48_128, r48_129, r48_130, r48_133, r48_135, am_li0, am_liS, am_laR0, am_tN, s_oc hDE, d_1 hDD, d_2 hDD, d_a2 hDD, x1, x2, xs1, n0, a3, not_true, if_false, am_okI, am_okR, List.length_cons, List.length_nil, Nat.reduceAdd, Nat.zero_le, Nat.reduceLeDiff, and_true, true_and]
/-- the children's loop, when twigs of less height are done -/
theorem c_wt_loop {D a b f y dep : Nat} {t w : Tr} {M : Pr} {X : Nat → Bool} {p q cpv : Int32} (hdep : dep ≤ 40)
    (ih : ∀ (c : Nat) (b' : Int32) (s : St) (Z : Zs), y < c → c < w.1 → cE s D a b t w M X Z → (cw t w M X f c cpv b' Z).1.length ≤ 24 → ∃ s' : St, cE s' D a b t w M X (cw t w M X f c cpv b' Z) ∧ frI D s s' ∧ ∀ Q : Option Value → am_S → Prop, am_Call L xs (d + 1) 47 [.ref D, .int (nI c), .int cpv, .int b', .int (nI (dep + 1))] (mk s) Q = Q (some (.int (cpO t Z.2 (M.2 c)))) (mk s')) :
    ∀ (m c : Nat) (b' : Int32) (s : St) (Z : Zs), c + m = w.1 → y < c → cE s D a b t w M X Z → (cwk t M (fun c b' Z' => cw t w M X f c cpv b' Z') (klF w y m c) b' Z).1.length ≤ 24 →
    ∃ s' : St, cE s' D a b t w M X (cwk t M (fun c b' Z' => cw t w M X f c cpv b' Z') (klF w y m c) b' Z) ∧ frI D s s' ∧ ∀ Q : Option Value → am_S → Prop, am_Rn L xs (d + 2) 47 26 [.ref D, .int (nI y), .int p, .int q, .int (nI dep), .int cpv, .int b', .int (nI c)] [] (mk s) Q = Q (some (.int cpv)) (mk s')
  | 0, c, b', s, Z, hm, hc, hE, hl => by
    have hE' := hE
    obtain ⟨hDE, ⟨hDD, hA, hB, hlt, e6, e7, c1, c2, hM, hp, hw, hw'⟩, hX, hs, hi⟩ := hE
    have h12' := hw'.1
    have e : c = w.1 := by omega
    subst e
    refine ⟨s, hE', frI_r D s, fun Q => ?_⟩
    have h1 : nI w.1 ≤ nI w.1 := nI_le (Nat.le_refl _) (by omega)
    rw [r47_26]
    simp only [r47_28, r47_29, r47_32, r47_35, r47_74, r47_76, am_li0, am_liS, am_laR0, d_7 hDD, e7, f_used hB, c2.1, h1, if_true]
  | m + 1, c, b', s, Z, hm, hc, hE, hl => by
    have hE' := hE
    obtain ⟨hDE, ⟨hDD, hA, hB, hlt, e6, e7, c1, c2, hM, hp, hw, hw'⟩, hX, hs, hi⟩ := hE
    have h12' := hw'.1
    have h1 : ¬ nI w.1 ≤ nI c := nI_ge (by omega) (by omega)
    have k1 : am_in (nI c) 12 = true := in_of (by omega) (by decide)
    have k2 : (nI c).toNatClampNeg = c := nI_clamp (by omega)
    have ep := (c2.2.1 c (by omega)).1
    by_cases h : w.2.1 c = nI y
    · rw [klF_s, if_pos h, cwk_c] at hl ⊢
      obtain ⟨s1, a1, a2, a3⟩ := ih c b' s Z hc (by omega) hE' (Nat.le_trans (cwk_len (fun c b' Z' => cw_len t w M X f c _ b' Z') _ _ _) hl)
      obtain ⟨s2, b1, b2, b3⟩ := c_wt_loop (p := p) (q := q) hdep ih m (c + 1) _ s1 _ (by omega) (by omega) a1 hl
      refine ⟨s2, b1, frI_t a2 b2, fun Q => ?_⟩
      rw [← b3 Q, r47_26]
      simp only [r47_28, r47_29, r47_32, r47_35, r47_38, r47_39, r47_42, r47_45, r47_47, r47_48, r47_49, r47_52, r47_53, r47_55, r47_57, r47_59, r47_61, r47_62, r47_63, r47_66, r47_68, r47_71, am_li0, am_liS, am_laR0, am_tL, d_oc hDD, d_7 hDD, e7, f_used hB, f_par hB, fa_par hB, c2.1, h1, k1, k2, ep, h, nI_1, a3, not_true, if_false, am_okI, am_okR, List.length_cons, List.length_nil, List.set_cons_succ, List.set_cons_zero, Nat.reduceAdd, Nat.reduceLT, Nat.zero_le, Nat.reduceLeDiff, and_true, true_and]
    · rw [klF_s, if_neg h] at hl ⊢
      obtain ⟨s2, b1, b2, b3⟩ := c_wt_loop (p := p) (q := q) hdep ih m (c + 1) b' s Z (by omega) (by omega) hE' hl
      refine ⟨s2, b1, b2, fun Q => ?_⟩
      rw [← b3 Q, r47_26]
      simp only [r47_28, r47_29, r47_32, r47_35, r47_38, r47_39, r47_42, r47_45, r47_47, r47_48, r47_49, r47_68, r47_71, am_li0, am_liS, am_laR0, d_7 hDD, e7, f_used hB, f_par hB, fa_par hB, c2.1, h1, k1, k2, ep, h, nI_1, not_false_eq_true, if_true, if_false, am_okI, am_okR, List.length_cons, List.length_nil, List.set_cons_succ, List.set_cons_zero, Nat.reduceAdd, Nat.reduceLT, Nat.zero_le, Nat.reduceLeDiff, and_true, true_and]
theorem c_writeTwig {D a b : Nat} {t w : Tr} {M : Pr} {X : Nat → Bool} : ∀ (f y dep : Nat) (p q : Int32) (s : St) (Z : Zs), y < w.1 → w.1 - y ≤ f → dep + f ≤ 40 → cE s D a b t w M X Z → (cw t w M X f y p q Z).1.length ≤ 24 →
    ∃ s' : St, cE s' D a b t w M X (cw t w M X f y p q Z) ∧ frI D s s' ∧ ∀ Q : Option Value → am_S → Prop, am_Call L xs (d + f + 2) 47 [.ref D, .int (nI y), .int p, .int q, .int (nI dep)] (mk s) Q = Q (some (.int (cpO t Z.2 (M.2 y)))) (mk s')
  | 0, y, dep, p, q, s, Z, hy, hf, hdep, hE, hl => by omega
  | f + 1, y, dep, p, q, s, Z, hy, hf, hdep, hE, hl => by
    have hDE := hE.1
    have hDD := hDE.1
    rw [cw_s] at hl ⊢
    obtain ⟨s1, a1, a2, a3⟩ := c_writeNode (L := L) (xs := xs) (d := d + f) hE hy p q (Nat.le_trans (cwk_len (fun c b' Z' => cw_len t w M X f c _ b' Z') _ _ _) hl)
    obtain ⟨s2, b1, b2, b3⟩ := c_wt_loop (L := L) (xs := xs) (d := d + f + 1) (p := p) (q := q) (show dep ≤ 40 by omega) (fun c b' s Z c1 c2 c3 c4 => c_writeTwig f c (dep + 1) _ b' s Z c2 (by omega) (by omega) c3 c4) (w.1 - (y + 1)) (y + 1) (-1) s1 _ (by omega) (by omega) a1 hl
    refine ⟨s2, b1, frI_t a2 b2, fun Q => ?_⟩
    have h40 : nI dep ≤ 40 := nI_le (b := 40) (by omega) (by decide)
    have b3 : am_Rn L xs (d + (f + 1) + 2) 47 26 [.ref D, .int (nI y), .int p, .int q, .int (nI dep), .int (cpO t Z.2 (M.2 y)), .int (-1), .int (nI (y + 1))] [] (mk s1) Q = _ := b3 Q
    have a3 : ∀ Q : Option Value → am_S → Prop, am_Call L xs (d + (f + 1) + 1) 48 [.ref D, .int (nI y), .int p, .int q] (mk s) Q = Q (some (.int (cpO t Z.2 (M.2 y)))) (mk s1) := a3
    rw [← b3]
    simp only [e47, r47_0, r47_2, r47_4, r47_9, r47_10, r47_11, r47_12, r47_13, r47_16, r47_18, r47_19, r47_21, r47_22, r47_23, r47_24, am_li0, am_liS, am_laR0, am_tL, d_oc hDD, h40, a3, nI_1, if_true, am_okI, am_okR, List.length_cons, List.length_nil, List.set_cons_succ, List.set_cons_zero, Nat.reduceAdd, Nat.reduceLT, Nat.zero_le, Nat.reduceLeDiff, and_true, true_and]
theorem c_wd_loop {D a b : Nat} {t w : Tr} {M : Pr} {X : Nat → Bool} : ∀ (m : Nat) (s : St) (Z : Zs), m ≤ t.1 → cE s D a b t w M X Z → (Z.1 ++ dlF M m).length ≤ 24 →
    ∃ s' : St, cE s' D a b t w M X (Z.1 ++ dlF M m, Z.2) ∧ frI D s s' ∧ ∀ Q : Option Value → am_S → Prop, am_Rn L xs (d + 2) 54 10 [.ref D, .int (nI m - 1)] [] (mk s) Q = Q none (mk s')
  | 0, s, Z, hm, hE, hl => by
    refine ⟨s, by rw [show dlF M 0 = [] from rfl, List.append_nil]; exact hE, frI_r D s, fun Q => ?_⟩
    have e0 : nI 0 - 1 < 0 := by decide
    rw [r54_10]
    simp only [r54_11, r54_40, am_li0, am_liS, e0, if_true]
  | m + 1, s, Z, hm, hE, hl => by
    have hE' := hE
    obtain ⟨hDE, ⟨hDD, hA, hB, hlt, e6, e7, c1, c2, hM, hp, hw, hw'⟩, hX, hs, hi⟩ := hE
    have hPP : isP (D + 1) := hDD.2.2.2.2.2.2
    have h12 := hw.1
    have h12' := hw'.1
    have e0 : ¬ nI m < 0 := nI_pos (by omega)
    have em : s.1 (D + 1 + 1) m = oI (M.1 m) := (hM m (by omega)).1
    have e9 : nI m + -1 = nI m - 1 := by rw [Int32.sub_eq_add_neg]
    rw [dlF_s] at hl ⊢
    cases ho : M.1 m with
    | none =>
      rw [ho, oI_none] at em
      rw [ho, dlO_n] at hl
      rw [dlO_n, ← List.append_assoc]
      rw [← List.append_assoc] at hl
      obtain ⟨s1, a1, a2, a3⟩ := c_deleteNode (L := L) (xs := xs) (d := d) hDE hs (by rw [List.length_append, List.length_append, List.length_cons, List.length_nil] at hl; omega) (nI m)
      obtain ⟨s2, b1, b2, b3⟩ := c_wd_loop m s1 _ (by omega) (cE_V hE' a2 a1) hl
      refine ⟨s2, b1, frI_t (frV_I a2) b2, fun Q => ?_⟩
      rw [← b3 Q, nI_pred, r54_10]
      simp only [r54_11, r54_14, r54_15, r54_18, r54_19, r54_22, r54_23, r54_26, r54_27, r54_30, r54_31, r54_34, r54_37, am_li0, am_liS, am_laR0, am_tL, am_tN, p_oc hPP, s_oc hDE, c_partnerOf hPP (show m < 12 by omega), d_0 hDD, d_1 hDD, e0, em, e9, a3, not_true, if_false, am_okI, am_okR, List.length_cons, List.length_nil, List.set_cons_succ, List.set_cons_zero, Nat.reduceAdd, Nat.reduceLT, Nat.zero_le, Nat.reduceLeDiff, and_true, true_and]
    | some y =>
      have hyw := (hp.1 m y ho).2
      have y3 : ¬ nI y = -1 := nI_m1 y (by omega)
      rw [ho, oI_some] at em
      rw [ho, dlO_s, List.nil_append] at hl
      rw [dlO_s, List.nil_append]
      obtain ⟨s2, b1, b2, b3⟩ := c_wd_loop m s Z (by omega) hE' hl
      refine ⟨s2, b1, b2, fun Q => ?_⟩
      rw [← b3 Q, nI_pred, r54_10]
      simp only [r54_11, r54_14, r54_15, r54_18, r54_19, r54_22, r54_23, r54_34, r54_37, am_li0, am_liS, am_laR0, am_tL, p_oc hPP, c_partnerOf hPP (show m < 12 by omega), d_0 hDD, e0, em, e9, y3, not_false_eq_true, if_true, if_false, am_okI, am_okR, List.length_cons, List.length_nil, List.set_cons_succ, List.set_cons_zero, Nat.reduceAdd, Nat.reduceLT, Nat.zero_le, Nat.reduceLeDiff, and_true, true_and]
/-- what a Difference may change -/
def frO (D : Nat) (s s' : St) : Prop := (∀ q, ¬ (D + 2 ≤ q ∧ q ≤ D + 24) → s'.1 q = s.1 q) ∧ (∀ q k, ¬ (q = D ∧ k = 8) → ¬ (q = D + 13 ∧ k = 1) → s'.2.1 q k = s.2.1 q k) ∧ ∀ q k, q ≠ D → q ≠ D + 1 → s'.2.2 q k = s.2.2 q k
/-- what it leaves -/
def dfR (s : St) (D : Nat) (t w : Tr) (H : Nat → Nat) (M : Pr) (X : Nat → Bool) : Prop := hP t H ∧ prt t w H M ∧ pW t w M ∧ mI M ∧ sT t w M t.1 X ∧ pM (s.1 (D + 2)) (s.1 (D + 3)) M ∧ sc s D (scr t w M X) ∧ s.2.1 D 8 = nI (scI t w M X)
theorem c_dfind {s : St} {D a b : Nat} {t w : Tr} (hDE : isE D) (hA : isF a 12) (hB : isF b 12) (ha : a + 5 ≤ D) (hb : b + 5 ≤ D) (c1 : cT s a t) (c2 : cT s b w) (hw : tW t) (hw' : tW w) (ht : 0 < t.1) (hu : 0 < w.1) :
    ∃ (s' : St) (H : Nat → Nat) (M : Pr) (X : Nat → Bool), dfR s' D t w H M X ∧ frO D s s' ∧ ∀ Q : Option Value → am_S → Prop, am_Call L xs (d + 45) 24 [.ref D, .ref a, .ref b] (mk s) Q = Q none (mk s') := by
  have hDD := hDE.1
  have hPP : isP (D + 1) := hDD.2.2.2.2.2.2
  have h12 := hw.1
  have h12' := hw'.1
  generalize hs1 : ((s.1, am_u2 s.2.1 D 8 0, am_u2 (am_u2 s.2.2 D 6 a) D 7 b) : St) = s1
  have f1a : s1.1 = s.1 := by rw [← hs1]
  have f1b : ∀ q k, ¬ (q = D ∧ k = 8) → s1.2.1 q k = s.2.1 q k := fun q k h => by rw [← hs1]; exact u2_ne _ _ h
  have f1c : s1.2.1 D 8 = 0 := by rw [← hs1]; exact u2_same _ _ _ _
  have f1d : s1.2.2 D 6 = a := by rw [← hs1]; dsimp only; rw [u2_ne _ _ (by omega), u2_same]
  have f1e : s1.2.2 D 7 = b := by rw [← hs1]; exact u2_same _ _ _ _
  have f1f : ∀ q k, q ≠ D → s1.2.2 q k = s.2.2 q k := fun q k hq => by rw [← hs1]; dsimp only; rw [u2_ne _ _ (by omega), u2_ne _ _ (by omega)]
  have ca : cT s1 a t := cT_congr (fun q z1 z2 => by rw [f1a]) (f1b _ _ (by omega)) c1
  have cb : cT s1 b w := cT_congr (fun q z1 z2 => by rw [f1a]) (f1b _ _ (by omega)) c2
  obtain ⟨s2, H, M, a1, a2, a3, a4, a5⟩ := c_find (L := L) (xs := xs) (d := d) (s := s1) hPP hA hB (show a + 5 ≤ D + 1 by omega) (show b + 5 ≤ D + 1 by omega) ca cb hw hw' ht hu
  have hp : pW t w M := a2.2.2.2.2.1
  have hI := prt_I hw hw' a1 a3
  have hD2 : cD s2 D a b t w M := ⟨hDD, hA, hB, ⟨ha, hb⟩, by rw [a4.2.2 _ _ (by omega)]; exact f1d, by rw [a4.2.2 _ _ (by omega)]; exact f1e, a2.1.2.2.2.2.2.1, a2.1.2.2.2.2.2.2.1, a2.2.2.2.1, hp, hw, hw'⟩
  obtain ⟨s3, X, b1, b2, b3, b4⟩ := c_settleAll (L := L) (xs := xs) (d := d + 41) hD2
  generalize hs4 : w2 s3 (D + 13) 1 0 = s4
  have g1 : s4.1 = s3.1 := by rw [← hs4]; rfl
  have g2 : ∀ q k, ¬ (q = D + 13 ∧ k = 1) → s4.2.1 q k = s3.2.1 q k := fun q k h => by rw [← hs4]; exact w2_o _ _ h
  have g3 : s4.2.1 (D + 13) 1 = 0 := by rw [← hs4]; exact w2_a _ _ _ _
  have g4 : s4.2.2 = s3.2.2 := by rw [← hs4]; rfl
  have f24 : frS D s2 s4 := frS_t (frH_S b3) ⟨fun q _ => by rw [g1], fun q k _ h2 => g2 q k h2, g4⟩
  have hE4 : cE s4 D a b t w M X ([], 0) := ⟨hDE, cD_fr f24 hD2, fun x hx => by rw [g1]; exact b1 x hx, ⟨g3, fun k p hk => by cases hk⟩, by rw [g2 _ _ (by omega), b3.2, a4.2.1]; exact f1c⟩
  obtain ⟨l1, l2⟩ := scr_len (X := X) hw hw' hu hI hp
  obtain ⟨s5, d1, d2, d3⟩ := c_writeTwig (L := L) (xs := xs) (d := d + 29) 13 0 0 (-1) (-1) s4 ([], 0) hu (by omega) (by omega) hE4 (by unfold scr at l1; rw [List.length_append] at l1; omega)
  obtain ⟨s6, e1, e2, e3⟩ := c_wd_loop (L := L) (xs := xs) (d := d + 42) t.1 s5 _ (Nat.le_refl _) d1 l1
  have ft : frI D s4 s6 := frI_t d2 e2
  have hM6 : pM (s6.1 (D + 2)) (s6.1 (D + 3)) M := e1.2.1.2.2.2.2.2.2.2.2.1
  refine ⟨s6, H, M, X, ⟨a1, a3, hp, hI, b2, hM6, e1.2.2.2.1, e1.2.2.2.2⟩, ⟨fun q hq => ?_, fun q k h1 h2 => ?_, fun q k h1 h2 => ?_⟩, fun Q => ?_⟩
  · rw [ft.1 q (by omega), g1, b3.1 q (by omega), a4.1 q (by omega), f1a]
  · rw [ft.2.1 q k h1 h2, g2 q k h2, b3.2, a4.2.1, f1b q k h1]
  · rw [ft.2.2, g4, b3.2, a4.2.2 q k h2, f1f q k h1]
  · have z5 : ∀ Q : Option Value → am_S → Prop, am_Call L xs (d + 44) 46 [.ref (D + 13)] (mk s3) Q = Q none (mk s4) := fun Q => by
      rw [← hs4]
      simp only [e46, r46_0, r46_1, r46_2, r46_5, am_laR0, s_v1 hDE]
    have d3 : ∀ Q : Option Value → am_S → Prop, am_Call L xs (d + 44) 47 [.ref D, .int 0, .int (-1), .int (-1), .int 0] (mk s4) Q = Q (some (.int (cpO t 0 (M.2 0)))) (mk s5) := d3
    have e3 : ∀ Q : Option Value → am_S → Prop, am_Call L xs (d + 44) 54 [.ref D] (mk s5) Q = Q none (mk s6) := fun Q => by
      rw [← e3 Q]
      simp only [e54, r54_0, r54_1, r54_4, r54_7, r54_8, r54_9, am_li0, am_liS, am_laR0, d_6 hDD, d1.2.1.2.2.2.2.1, f_used hA, d1.2.1.2.2.2.2.2.2.1.1, List.length_cons, List.length_nil, List.set_cons_succ, List.set_cons_zero, Nat.reduceAdd, Nat.reduceLT, Nat.zero_le, Nat.reduceLeDiff, and_true, true_and]
    have q6 : (am_u2 (am_u2 s.2.2 D 6 a) D 7 b) D 6 = a := by rw [u2_ne _ _ (by omega), u2_same]
    have q7 : (am_u2 (am_u2 s.2.2 D 6 a) D 7 b) D 7 = b := u2_same _ _ _ _
    simp only [e24, r24_0, r24_1, r24_2, r24_5, r24_6, r24_7, r24_10, r24_11, r24_12, r24_15, r24_16, r24_19, r24_20, r24_23, r24_24, r24_27, r24_30, r24_31, r24_34, r24_35, r24_38, r24_41, r24_42, r24_43, r24_44, r24_45, r24_46, r24_49, r24_50, r24_51, r24_54, am_li0, am_liS, am_laR0, am_laS, am_tL, am_tN, d_v6 hDD, d_v7 hDD, d_v8 hDD, d_0 hDD, d_1 hDD, d_6 hDD, d_7 hDD, d_oc hDD, p_oc hPP, s_oc hDE, q6, q7, hs1, f1d, f1e, a5, b4, z5, d3, e3, am_okI, am_okR, List.length_cons, List.length_nil, List.set_cons_succ, List.set_cons_zero, Nat.reduceAdd, Nat.reduceLT, Nat.zero_le, Nat.reduceLeDiff, and_true, true_and]
end
