/-! joinTwigs: the class joins two alike twigs; joinBestAlikes -/
section
variable {L : Nat} {xs : Nat → Int32} {d : Nat} {s : St} {Q : Option Value → am_S → Prop}
theorem c_kc {a : Nat} {t : Tr} (hF : isF a 12) (hc : cT s a t) (hw : tW t) {x : Nat} : am_Call L xs d 10 [.ref a, .int (nI x)] (mk s) Q = Q (some (.int (nI (kc t x)))) (mk s) := by
  have h12 := hw.1
  rw [c_childCount hF (by decide) hc.1 (by omega), cnt_congr (nI x) t.1 (fun j hj => (hc.2.1 j hj).1)]
  rfl
theorem c_kd {a : Nat} {t : Tr} (hF : isF a 12) (hc : cT s a t) (hw : tW t) {x i : Nat} : am_Call L xs d 11 [.ref a, .int (nI x), .int (nI i)] (mk s) Q = Q (some (.int (oI (kd t x i)))) (mk s) := by
  have h12 := hw.1
  have e : fnd (s.1 (a + 1)) (s.1 (a + 2)) (nI x) (nI i) t.1 0 = kd t x i := fnd_congr (fun j _ hj => ⟨(hc.2.1 j (by omega)).1, (hc.2.1 j (by omega)).2.1⟩)
  rw [c_childAt hF (by decide) hc.1 (by omega), e]
end
/-- only partner and owner have changed -/
def frJ (P : Nat) (s s' : St) : Prop := (∀ q, q ≠ P + 1 → q ≠ P + 2 → s'.1 q = s.1 q) ∧ s'.2 = s.2
theorem frJ_refl (P : Nat) (s : St) : frJ P s s := ⟨fun _ _ _ => rfl, rfl⟩
theorem frJ_trans {P : Nat} {s s' s'' : St} (h : frJ P s s') (h' : frJ P s' s'') : frJ P s s'' := ⟨fun q h1 h2 => (h'.1 q h1 h2).trans (h.1 q h1 h2), h'.2.trans h.2⟩
theorem frJ_J (P : Nat) (s : St) (g g' : Nat → Int32) : frJ P s (va_up (va_up s.1 (P + 1) g) (P + 2) g', s.2) := ⟨fun q h1 h2 => by dsimp only; rw [up_ne _ _ h2, up_ne _ _ h1], rfl⟩
theorem cQ_fr {s s' : St} {P a b : Nat} {t w : Tr} {H : Nat → Nat} {M M' : Pr} (f : frJ P s s') (h1 : pM (s'.1 (P + 1)) (s'.1 (P + 2)) M') (h2 : pW t w M') (h : cQ s P a b t w H M) : cQ s' P a b t w H M' := by
  obtain ⟨⟨l1, l2, l3, l4, l5, l6, l7, l8, l9⟩, ⟨k1, k2, k3, k4, k5, k6, k7, k8, k9, k10⟩, hA, -, -, hw, hw'⟩ := h
  have ca : cT s' a t := cT_congr (fun q z1 z2 => f.1 q (by omega) (by omega)) (by rw [f.2]) l6
  have cb : cT s' b w := cT_congr (fun q z1 z2 => f.1 q (by omega) (by omega)) (by rw [f.2]) l7
  refine ⟨⟨l1, l2, l3, by rw [f.2]; exact l4, by rw [f.2]; exact l5, ca, cb, ?_, ?_⟩, ⟨k1, k2, k3, k4, by rw [f.2]; exact k5, by rw [f.2]; exact k6, ca, cb, k9, ?_⟩, ?_, h1, h2, hw, hw'⟩
  · rw [f.1 (P + 4) (by omega) (by omega)]; exact l8
  · rw [f.1 (P + 5) (by omega) (by omega)]; exact l9
  · rw [f.1 (P + 3) (by omega) (by omega)]; exact k10
  · rw [f.1 (P + 6) (by omega) (by omega)]; exact hA
theorem cQ_J {s : St} {P a b : Nat} {t w : Tr} {H : Nat → Nat} {M : Pr} (h : cQ s P a b t w H M) {x y : Nat} (hx : x < t.1) (hy : y < w.1) : cQ (va_up (va_up s.1 (P + 1) (upd (s.1 (P + 1)) x (nI y))) (P + 2) (upd (s.1 (P + 2)) y (nI x)), s.2) P a b t w H (pJ M x y) := by
  refine cQ_fr (frJ_J _ _ _ _) ?_ (pJ_W h.2.2.2.2.1 hx hy) h
  dsimp only
  rw [up_same, up_ne _ _ (by omega), up_same]
  exact pJ_M h.2.2.2.1 x y
/-- alike nodes: their children are alike -/
theorem al_kid {t w : Tr} (hw : tW t) (hw' : tW w) {x y : Nat} (hx : x < t.1) (hy : y < w.1) (ha : alN t w x y = true) : kc t x = kc w y ∧ ∀ k, k < kc t x → ∃ a b, kd t x k = some a ∧ kd w y k = some b ∧ a < t.1 ∧ b < w.1 ∧ x < a ∧ alN t w a b = true := by
  have h12 := hw.1
  have h12' := hw'.1
  rw [alN_eq hw hx, Bool.and_eq_true, Bool.and_eq_true, decide_eq_true_iff] at ha
  refine ⟨ha.1.2, fun k hk => ?_⟩
  have hall := allF_iff.mp ha.2 k (Nat.zero_le _) (by omega)
  obtain ⟨a, a1, a2, a3⟩ := kd_lt hw (x := x) (k := k) (by omega) hk
  obtain ⟨b, b1, b2, b3⟩ := kd_lt hw' (x := y) (k := k) (by omega) (by rw [← ha.1.2]; exact hk)
  rw [a1, b1, kB_ss] at hall
  exact ⟨a, b, a1, b1, a2, b2, a3, hall⟩
/-- the twins below the first i children -/
def twK (t w : Tr) (x y i n v : Nat) : Prop := (n = x ∧ v = y) ∨ ∃ k a b, k < i ∧ kd t x k = some a ∧ kd w y k = some b ∧ tw t w a b t.1 n v
theorem twK_cr {t w : Tr} (hw : tW t) (hw' : tW w) {x y i n v : Nat} (hx : x < t.1) (hy : y < w.1) (hi : i ≤ kc t x) (h : twK t w x y i n v) : n < t.1 ∧ cr t w x y n = some v := by
  rcases h with ⟨e1, e2⟩ | ⟨k, a, b, c1, c2, c3, c4⟩
  · rw [e1, e2]; exact ⟨hx, cr_x t w x y⟩
  · exact ⟨c4.2.1, (cr_kid hw hw' hx hy n v c4.2.1).mpr (Or.inr ⟨k, a, b, c2, c3, by omega, c4.2.2⟩)⟩
theorem twK_all {t w : Tr} (hw : tW t) (hw' : tW w) {x y : Nat} (hx : x < t.1) (hy : y < w.1) (n v : Nat) : twK t w x y (kc t x) n v ↔ tw t w x y t.1 n v := by
  constructor
  · intro h
    have := twK_cr hw hw' hx hy (Nat.le_refl _) h
    exact ⟨this.1, this⟩
  · rintro ⟨h1, h2, h3⟩
    rcases (cr_kid hw hw' hx hy n v h2).mp h3 with e | ⟨k, a, b, c1, c2, c3, c4⟩
    · exact Or.inl e
    · exact Or.inr ⟨k, a, b, c3, c1, c2, h2, h2, c4⟩
section
variable {L : Nat} {xs : Nat → Int32} {d : Nat} {s : St}
theorem c_tw_loop {P a b : Nat} {t w : Tr} {H : Nat → Nat} {M : Pr} {dep x y : Nat} (hw : tW t) (hw' : tW w) (hx : x < t.1) (hy : y < w.1) (ha : alN t w x y = true)
    (hrec : ∀ (x' y' : Nat) (s : St) (M : Pr), x < x' → x' < t.1 → y' < w.1 → alN t w x' y' = true → cQ s P a b t w H M → ∃ (s' : St) (M' : Pr), cQ s' P a b t w H M' ∧ frJ P s s' ∧ jS (tw t w x' y' t.1) M M' ∧ ∀ Q : Option Value → am_S → Prop, am_Call L xs (d + 1) 32 [.ref P, .int (nI x'), .int (nI y'), .int (nI (dep + 1))] (mk s) Q = Q none (mk s')) :
    ∀ (m i : Nat) (s : St) (M1 : Pr), kc t x - i = m → i ≤ kc t x → cQ s P a b t w H M1 → jS (twK t w x y i) M M1 →
    ∃ (s' : St) (M' : Pr), cQ s' P a b t w H M' ∧ frJ P s s' ∧ jS (tw t w x y t.1) M M' ∧ ∀ Q : Option Value → am_S → Prop, am_Rn L xs (d + 2) 32 48 [.ref P, .int (nI x), .int (nI y), .int (nI dep), .int (nI (kc t x)), .int (nI i)] [] (mk s) Q = Q none (mk s')
  | 0, i, s, M1, hm, hi, hQ, hj => by
    have hk := kc_lt hw hx
    have e : i = kc t x := by omega
    subst e
    refine ⟨s, M1, hQ, frJ_refl P s, jS_iff hj (fun n v => twK_all hw hw' hx hy n v), fun Q => ?_⟩
    have h1 : nI (kc t x) ≤ nI (kc t x) := nI_le (Nat.le_refl _) (by omega)
    rw [r32_48]
    simp only [r32_50, r32_52, r32_88, am_li0, am_liS, h1, if_true]
  | m + 1, i, s, M1, hm, hi, hQ, hj => by
    have hk := kc_lt hw hx
    have h12 := hw.1
    have h12' := hw'.1
    obtain ⟨-, hkid⟩ := al_kid hw hw' hx hy ha
    obtain ⟨p, q, p1, p2, p3, p4, p5, p6⟩ := hkid i (by omega)
    obtain ⟨s1, M2, r1, r2, r3, r4⟩ := hrec p q s M1 p5 p3 p4 p6 hQ
    have hsub : ∀ n v, tw t w p q t.1 n v → n < t.1 ∧ cr t w x y n = some v := fun n v z => ⟨z.1, (cr_kid hw hw' hx hy n v z.1).mpr (Or.inr ⟨i, p, q, p1, p2, by omega, z.2.2⟩)⟩
    have hj2 : jS (twK t w x y (i + 1)) M M2 := jS_iff (jS_cat hj r3 (fun n v v' z1 z2 => by
        have a1 := twK_cr hw hw' hx hy hi z1
        have a2 := hsub n v' z2
        rw [a1.2] at a2
        exact Option.some.inj a2.2) (fun n n' v z1 z2 => by
        have a1 := twK_cr hw hw' hx hy hi z1
        have a2 := hsub n' v z2
        exact cr_inj hw hw' hy n n' v a1.1 a2.1 a1.2 a2.2)) (fun n v => by
      constructor
      · rintro ((z | ⟨k, a', b', c1, c2⟩) | z)
        · exact Or.inl z
        · exact Or.inr ⟨k, a', b', by omega, c2⟩
        · exact Or.inr ⟨i, p, q, by omega, p1, p2, z⟩
      · rintro (z | ⟨k, a', b', c1, c2, c3, c4⟩)
        · exact Or.inl (Or.inl z)
        · by_cases e : k = i
          · rw [e, p1] at c2
            rw [e, p2] at c3
            cases c2
            cases c3
            exact Or.inr c4
          · exact Or.inl (Or.inr ⟨k, a', b', by omega, c2, c3, c4⟩))
    obtain ⟨s2, M3, u1, u2, u3, u4⟩ := c_tw_loop hw hw' hx hy ha hrec m (i + 1) s1 M2 (by omega) (by omega) r1 hj2
    refine ⟨s2, M3, u1, frJ_trans r2 u2, u3, fun Q => ?_⟩
    obtain ⟨hL, ⟨hP, hA, hB, -, g1, g2, c1, c2, -, -⟩, -, -, -, -, -⟩ := hQ
    have h1 : ¬ nI (kc t x) ≤ nI i := nI_ge (by omega) (by omega)
    have k1 := fun Q => c_kd (L := L) (xs := xs) (d := d + 1) (s := s) (Q := Q) hA c1 hw (x := x) (i := i)
    have k2 := fun Q => c_kd (L := L) (xs := xs) (d := d + 1) (s := s) (Q := Q) hB c2 hw' (x := y) (i := i)
    rw [p1, oI_some] at k1
    rw [p2, oI_some] at k2
    rw [← u4 Q, r32_48]
    simp only [r32_50, r32_52, r32_55, r32_56, r32_57, r32_60, r32_61, r32_63, r32_66, r32_67, r32_70, r32_71, r32_73, r32_76, r32_77, r32_78, r32_79, r32_82, r32_85, am_li0, am_liS, am_laR0, p_oc hP, p_6 hP, p_7 hP, g1, g2, f_oc hA, f_oc hB, k1, k2, r4, h1, nI_1, am_tL, am_tN, am_okI, am_okR, if_false, List.length_cons, List.length_nil, List.set_cons_succ, List.set_cons_zero, Nat.reduceAdd, Nat.reduceLeDiff, Nat.zero_le, and_true, true_and]
theorem c_joinTwigs {P a b : Nat} {t w : Tr} {H : Nat → Nat} (hw : tW t) (hw' : tW w) : ∀ (fu dep x y : Nat) (s : St) (M : Pr), dep + fu ≤ 41 → t.1 - x ≤ fu → x < t.1 → y < w.1 → alN t w x y = true → cQ s P a b t w H M →
    ∃ (s' : St) (M' : Pr), cQ s' P a b t w H M' ∧ frJ P s s' ∧ jS (tw t w x y t.1) M M' ∧ ∀ Q : Option Value → am_S → Prop, am_Call L xs (d + fu + 1) 32 [.ref P, .int (nI x), .int (nI y), .int (nI dep)] (mk s) Q = Q none (mk s')
  | 0, dep, x, y, s, M, h1, h2, hx, hy, ha, hQ => by omega
  | fu + 1, dep, x, y, s, M, h1, h2, hx, hy, ha, hQ => by
    have h12 := hw.1
    have h12' := hw'.1
    have hj : jS (twK t w x y 0) M (pJ M x y) := jS_iff (jS_J (jS_0 M) (fun v q => q.elim) (fun n q => q.elim)) (fun n v => by
      constructor
      · rintro (z | z)
        · exact z.elim
        · exact Or.inl z
      · rintro (z | ⟨k, a', b', c1, -⟩)
        · exact Or.inr z
        · exact absurd c1 (Nat.not_lt_zero _))
    have hQ1 := cQ_J hQ hx hy
    obtain ⟨s', M', r1, r2, r3, r4⟩ := c_tw_loop (L := L) (xs := xs) (d := d + fu) (dep := dep) hw hw' hx hy ha (fun x' y' s M q1 q2 q3 q4 q5 => c_joinTwigs hw hw' fu (dep + 1) x' y' s M (by omega) (by omega) q2 q3 q4 q5) (kc t x) 0 _ (pJ M x y) (by omega) (by omega) hQ1 hj
    refine ⟨s', M', r1, frJ_trans (frJ_J _ _ _ _) r2, r3, fun Q => ?_⟩
    have r4 : am_Rn L xs (d + fu + 2) 32 48 [.ref P, .int (nI x), .int (nI y), .int (nI dep), .int (nI (kc t x)), .int 0] [] _ Q = _ := r4 Q
    obtain ⟨hL1, ⟨-, -, -, -, g1', -, c1', -, -, -⟩, -, -, -, -, -⟩ := hQ1
    obtain ⟨hL, ⟨hP, hA, hB, -, g1, g2, c1, c2, -, -⟩, -, -, -, -, -⟩ := hQ
    have h40 : ¬ (40 : Int32) < nI dep := nI_nlt (a := 40) (b := dep) (by omega) (by decide)
    have n1 : ¬ (1 : Int32) = 0 := by decide
    have hj1 := fun Q => c_join (L := L) (xs := xs) (d := d + fu + 1) (s := s) (Q := Q) hP (show x < 12 by omega) (show y < 12 by omega)
    have k1 := fun Q => c_kc (L := L) (xs := xs) (d := d + fu + 1) (Q := Q) hA c1' hw (x := x)
    dsimp only at g1'
    rw [← r4]
    show am_Call L xs (d + fu + 2) 32 _ _ _ = _
    simp only [e32, r32_0, r32_1, r32_3, r32_6, r32_7, r32_10, r32_11, r32_14, r32_17, r32_18, r32_21, r32_22, r32_25, r32_28, r32_29, r32_30, r32_31, r32_32, r32_35, r32_36, r32_39, r32_40, r32_43, r32_45, r32_46, am_li0, am_liS, am_laR0, p_oc hP, p_6 hP, p_7 hP, g1, g2, f_oc hA, f_oc hB, c_hasT hA c1 hw ⟨x, hx, rfl⟩, c_hasT hB c2 hw' ⟨y, hy, rfl⟩, hj1, k1, h40, n1, am_tL, am_tN, am_okI, am_okR, not_false_eq_true, if_true, if_false, List.length_cons, List.length_nil, List.set_cons_succ, List.set_cons_zero, Nat.reduceAdd, Nat.reduceLT, Nat.reduceLeDiff, Nat.zero_le, and_true, true_and]
end
