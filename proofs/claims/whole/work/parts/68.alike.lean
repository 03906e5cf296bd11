/-! alike: the class's sameTwig, on any two forests -/
/-- a forest: used, parents, places, types, labels -/
abbrev Fo : Type := Nat × (Nat → Int32) × (Nat → Int32) × (Nat → Int32) × (Nat → Int32)
def foS (s : St) (p u : Nat) : Fo := (u, s.1 (p + 1), s.1 (p + 2), s.1 (p + 3), s.1 (p + 4))
def foB (a : Fo) (x : Int32) : Bool := decide (∃ j, j < a.1 ∧ x = nI j ∧ ¬ a.2.1 j = -2)
/-- P holds from i on, m times -/
def allF (P : Nat → Bool) : Nat → Nat → Bool
  | 0, _ => true
  | m + 1, i => P i && allF P m (i + 1)
theorem allF_s (P : Nat → Bool) (m i : Nat) : allF P (m + 1) i = (P i && allF P m (i + 1)) := rfl
theorem allF_iff {P : Nat → Bool} : ∀ {m i : Nat}, allF P m i = true ↔ ∀ k, i ≤ k → k < i + m → P k = true
  | 0, i => ⟨fun _ k h1 h2 => by omega, fun _ => rfl⟩
  | m + 1, i => by
    unfold allF
    rw [Bool.and_eq_true, allF_iff]
    constructor
    · rintro ⟨h1, h2⟩ k k1 k2
      by_cases e : k = i
      · rw [e]; exact h1
      · exact h2 k (by omega) (by omega)
    · intro h
      exact ⟨h i (Nat.le_refl _) (by omega), fun k k1 k2 => h k (by omega) (by omega)⟩
def alkG (a b : Fo) : Nat → Int32 → Int32 → Bool
  | 0, _, _ => false
  | f + 1, x, y => foB a x && foB b y && decide (a.2.2.2.1 x.toNatClampNeg = b.2.2.2.1 y.toNatClampNeg) && decide (a.2.2.2.2 x.toNatClampNeg = b.2.2.2.2 y.toNatClampNeg) && decide (cnt a.2.1 x a.1 = cnt b.2.1 y b.1) &&
    allF (fun i => alkG a b f (oI (fnd a.2.1 a.2.2.1 x (nI i) a.1 0)) (oI (fnd b.2.1 b.2.2.1 y (nI i) b.1 0))) (cnt a.2.1 x a.1) 0
def bI (b : Bool) : Int32 := if b = true then 1 else 0
theorem bI_01 (b : Bool) : bI b = 0 ∨ bI b = 1 := by cases b <;> simp [bI]
section
variable {L : Nat} {xs : Nat → Int32} {s : St} {p q n n' u v : Nat}
theorem c_hasB {d : Nat} {Q : Option Value → am_S → Prop} (hF : isF p n) (hn : n < 2 ^ 31) (hu : s.2.1 p 4 = nI u) (hun : u ≤ n) {x : Int32} : am_Call L xs d 9 [.ref p, .int x] (mk s) Q = Q (some (.int (bI (foB (foS s p u) x)))) (mk s) := by
  rw [c_has hF hn hu hun]
  unfold bI foB foS
  dsimp only
  by_cases h : ∃ j, j < u ∧ x = nI j ∧ ¬ s.1 (p + 1) j = -2
  · rw [if_pos h, if_pos (decide_eq_true h)]
  · rw [if_neg h, if_neg (by rw [decide_eq_true_eq]; exact h)]
theorem c_same_loop {d fu dep c : Nat} {x y : Int32} (hF : isF p n) (hn : n < 2 ^ 31) (hu : s.2.1 p 4 = nI u) (hun : u ≤ n) (hG : isF q n') (hn' : n' < 2 ^ 31) (hv : s.2.1 q 4 = nI v) (hvn : v ≤ n') (hcn : c < 2 ^ 31)
    (hrec : ∀ (x' y' : Int32) (Q : Option Value → am_S → Prop), am_Call L xs (d + 1) 20 [.ref p, .int x', .ref q, .int y', .int (nI (dep + 1))] (mk s) Q = Q (some (.int (bI (alkG (foS s p u) (foS s q v) fu x' y')))) (mk s)) {Q : Option Value → am_S → Prop} : ∀ (m i : Nat), c - i = m → i ≤ c →
    am_Rn L xs (d + 2) 20 79 [.ref p, .int x, .ref q, .int y, .int (nI dep), .int (nI c), .int (nI i)] [] (mk s) Q =
    Q (some (.int (bI (allF (fun i => alkG (foS s p u) (foS s q v) fu (oI (fnd (s.1 (p + 1)) (s.1 (p + 2)) x (nI i) u 0)) (oI (fnd (s.1 (q + 1)) (s.1 (q + 2)) y (nI i) v 0))) m i)))) (mk s)
  | 0, i, hm, hi => by
    have e : i = c := by omega
    subst e
    have h1 : nI i ≤ nI i := nI_le (Nat.le_refl _) (by omega)
    rw [r20_79]
    simp only [r20_81, r20_83, r20_120, r20_121, am_li0, am_liS, h1, if_true, or_true, eq_self, allF, bI]
  | m + 1, i, hm, hi => by
    have h1 : ¬ nI c ≤ nI i := nI_ge (by omega) (by omega)
    have ih := c_same_loop (x := x) (y := y) hF hn hu hun hG hn' hv hvn hcn hrec (Q := Q) m (i + 1) (by omega) (by omega)
    rw [r20_79]
    cases hb : alkG (foS s p u) (foS s q v) fu (oI (fnd (s.1 (p + 1)) (s.1 (p + 2)) x (nI i) u 0)) (oI (fnd (s.1 (q + 1)) (s.1 (q + 2)) y (nI i) v 0)) with
    | true =>
      have h2 : ¬ bI true = 0 := by decide
      simp only [r20_81, r20_83, r20_86, r20_87, r20_88, r20_89, r20_91, r20_94, r20_95, r20_96, r20_97, r20_99, r20_102, r20_104, r20_105, r20_106, r20_109, r20_112, r20_113, r20_114, r20_117, am_li0, am_liS, am_laR0, am_laS, f_oc hF, f_oc hG, c_childAt hF hn hu hun, c_childAt hG hn' hv hvn, nI_1, hrec, hb, h1, h2, am_tL, not_false_eq_true, if_true, if_false, am_okI, am_okR, List.length_cons, List.length_nil, List.set_cons_succ, List.set_cons_zero, Nat.reduceAdd, Nat.reduceLT, Nat.reduceLeDiff, Nat.zero_le, and_true, true_and]
      rw [ih, allF_s, hb, Bool.true_and]
    | false =>
      have h2 : bI false = 0 := by decide
      simp only [r20_81, r20_83, r20_86, r20_87, r20_88, r20_89, r20_91, r20_94, r20_95, r20_96, r20_97, r20_99, r20_102, r20_104, r20_105, r20_106, r20_109, r20_112, r20_113, r20_114, r20_117, am_li0, am_liS, am_laR0, am_laS, f_oc hF, f_oc hG, c_childAt hF hn hu hun, c_childAt hG hn' hv hvn, nI_1, hrec, hb, h1, h2, am_tL, not_true, if_true, if_false, true_or, eq_self, am_okI, am_okR, List.length_cons, List.length_nil, Nat.reduceAdd, Nat.reduceLT, Nat.reduceLeDiff, Nat.zero_le, and_true, true_and, allF, Bool.false_and]
theorem c_sameTwig (hF : isF p n) (hn : n < 2 ^ 31) (hu : s.2.1 p 4 = nI u) (hun : u ≤ n) (hG : isF q n') (hn' : n' < 2 ^ 31) (hv : s.2.1 q 4 = nI v) (hvn : v ≤ n') : ∀ (fu dep d : Nat) (x y : Int32) (Q : Option Value → am_S → Prop), dep + fu = 41 →
    am_Call L xs (d + fu + 1) 20 [.ref p, .int x, .ref q, .int y, .int (nI dep)] (mk s) Q = Q (some (.int (bI (alkG (foS s p u) (foS s q v) fu x y)))) (mk s)
  | 0, dep, d, x, y, Q, h => by
    have e : nI dep = 41 := by rw [show dep = 41 by omega]; rfl
    have h1 : (40 : Int32) < 41 := by decide
    simp only [e20, r20_0, r20_2, r20_4, r20_23, r20_24, am_li0, am_liS, e, h1, if_true, true_or, eq_self, alkG, bI, if_false, Bool.false_eq_true]
  | fu + 1, dep, d, x, y, Q, h => by
    have h1 : ¬ (40 : Int32) < nI dep := nI_nlt (a := 40) (b := dep) (by omega) (by decide)
    have hrec : ∀ (x' y' : Int32) (Q : Option Value → am_S → Prop), am_Call L xs (d + fu + 1) 20 [.ref p, .int x', .ref q, .int y', .int (nI (dep + 1))] (mk s) Q = Q (some (.int (bI (alkG (foS s p u) (foS s q v) fu x' y')))) (mk s) := fun x' y' Q => c_sameTwig hF hn hu hun hG hn' hv hvn fu (dep + 1) d x' y' Q (by omega)
    have hB : ∀ b : Bool, ¬ b = true → b = false := fun b => by cases b <;> simp
    have b0 : bI false = 0 := rfl
    have b1 : bI true = 1 := rfl
    have n1 : ¬ (1 : Int32) = 0 := by decide
    show am_Call L xs (d + fu + 2) 20 _ _ _ = _
    by_cases hx : foB (foS s p u) x = true
    · by_cases hy : foB (foS s q v) y = true
      · have hxi : am_in x n = true := by
          unfold foB foS at hx
          obtain ⟨j, j1, rfl, -⟩ := of_decide_eq_true hx
          exact in_of (Nat.lt_of_lt_of_le j1 hun) hn
        have hyi : am_in y n' = true := by
          unfold foB foS at hy
          obtain ⟨j, j1, rfl, -⟩ := of_decide_eq_true hy
          exact in_of (Nat.lt_of_lt_of_le j1 hvn) hn'
        by_cases ht : s.1 (p + 3) x.toNatClampNeg = s.1 (q + 3) y.toNatClampNeg
        · by_cases hl : s.1 (p + 4) x.toNatClampNeg = s.1 (q + 4) y.toNatClampNeg
          · have k1 := cnt_le (s.1 (p + 1)) x u
            have k2 := cnt_le (s.1 (q + 1)) y v
            by_cases hc : cnt (s.1 (p + 1)) x u = cnt (s.1 (q + 1)) y v
            · have hloop := c_same_loop (L := L) (xs := xs) (d := d + fu) (fu := fu) (dep := dep) (x := x) (y := y) (c := cnt (s.1 (q + 1)) y v) hF hn hu hun hG hn' hv hvn (by omega) hrec (Q := Q) (cnt (s.1 (q + 1)) y v) 0 (by omega) (by omega)
              have hloop : am_Rn L xs (d + fu + 2) 20 79 [.ref p, .int x, .ref q, .int y, .int (nI dep), .int (nI (cnt (s.1 (q + 1)) y v)), .int 0] [] (mk s) Q = _ := hloop
              have e : alkG (foS s p u) (foS s q v) (fu + 1) x y = allF (fun i => alkG (foS s p u) (foS s q v) fu (oI (fnd (s.1 (p + 1)) (s.1 (p + 2)) x (nI i) u 0)) (oI (fnd (s.1 (q + 1)) (s.1 (q + 2)) y (nI i) v 0))) (cnt (s.1 (q + 1)) y v) 0 := by
                rw [alkG, hx, hy]
                simp only [foS, ht, hl, hc, decide_true, Bool.true_and]
              simp only [e20, r20_0, r20_2, r20_4, r20_7, r20_8, r20_9, r20_12, r20_15, r20_16, r20_17, r20_20, r20_23, r20_24, r20_25, r20_26, r20_29, r20_30, r20_31, r20_32, r20_35, r20_36, r20_37, r20_40, r20_41, r20_44, r20_45, r20_46, r20_47, r20_50, r20_51, r20_52, r20_55, r20_56, r20_57, r20_58, r20_59, r20_62, r20_64, r20_66, r20_67, r20_68, r20_71, r20_74, r20_75, r20_76, r20_77, am_li0, am_liS, am_laR0, am_laS, f_oc hF, f_oc hG, f_typ hF, f_typ hG, f_lab hF, f_lab hG, fa_typ hF, fa_typ hG, fa_lab hF, fa_lab hG, c_hasB hF hn hu hun, c_hasB hG hn' hv hvn, c_childCount hF hn hu hun, c_childCount hG hn' hv hvn, hx, hy, hxi, hyi, ht, hl, hc, b1, n1, h1, am_tL, not_true, not_false_eq_true, if_true, if_false, am_okI, am_okR, List.length_cons, List.length_nil, List.set_cons_succ, List.set_cons_zero, Nat.reduceAdd, Nat.reduceLT, Nat.reduceLeDiff, Nat.zero_le, and_true, true_and]
              rw [hloop, e]
            · have hc2 : ¬ nI (cnt (s.1 (p + 1)) x u) = nI (cnt (s.1 (q + 1)) y v) := fun e => hc ((nI_eq (by omega) (by omega)).mp e)
              have e : alkG (foS s p u) (foS s q v) (fu + 1) x y = false := by
                rw [alkG, hx, hy]
                simp only [foS, ht, hl, hc, decide_true, decide_false, Bool.true_and, Bool.false_and]
              simp only [e20, r20_0, r20_2, r20_4, r20_7, r20_8, r20_9, r20_12, r20_15, r20_16, r20_17, r20_20, r20_23, r20_24, r20_25, r20_26, r20_29, r20_30, r20_31, r20_32, r20_35, r20_36, r20_37, r20_40, r20_41, r20_44, r20_45, r20_46, r20_47, r20_50, r20_51, r20_52, r20_55, r20_56, r20_57, r20_58, r20_59, r20_62, r20_64, r20_66, r20_67, r20_68, r20_71, r20_74, r20_75, am_li0, am_liS, am_laR0, am_laS, f_oc hF, f_oc hG, f_typ hF, f_typ hG, f_lab hF, f_lab hG, fa_typ hF, fa_typ hG, fa_lab hF, fa_lab hG, c_hasB hF hn hu hun, c_hasB hG hn' hv hvn, c_childCount hF hn hu hun, c_childCount hG hn' hv hvn, hx, hy, hxi, hyi, ht, hl, hc2, b1, b0, n1, h1, e, am_tL, not_true, not_false_eq_true, if_true, if_false, true_or, eq_self, am_okI, am_okR, List.length_cons, List.length_nil, List.set_cons_succ, List.set_cons_zero, Nat.reduceAdd, Nat.reduceLT, Nat.reduceLeDiff, Nat.zero_le, and_true, true_and]
          · have e : alkG (foS s p u) (foS s q v) (fu + 1) x y = false := by
              rw [alkG, hx, hy]
              simp only [foS, ht, hl, decide_true, decide_false, Bool.true_and, Bool.false_and]
            simp only [e20, r20_0, r20_2, r20_4, r20_7, r20_8, r20_9, r20_12, r20_15, r20_16, r20_17, r20_20, r20_23, r20_24, r20_25, r20_26, r20_29, r20_30, r20_31, r20_32, r20_35, r20_36, r20_37, r20_40, r20_41, r20_44, r20_45, r20_46, r20_47, r20_50, r20_51, r20_52, r20_55, r20_56, am_li0, am_liS, am_laR0, am_laS, f_oc hF, f_oc hG, f_typ hF, f_typ hG, f_lab hF, f_lab hG, fa_typ hF, fa_typ hG, fa_lab hF, fa_lab hG, c_hasB hF hn hu hun, c_hasB hG hn' hv hvn, hx, hy, hxi, hyi, ht, hl, b1, b0, n1, h1, e, am_tL, not_true, not_false_eq_true, if_true, if_false, true_or, eq_self, am_okI, am_okR, List.length_cons, List.length_nil, Nat.reduceAdd, Nat.reduceLT, Nat.reduceLeDiff, Nat.zero_le, and_true, true_and]
        · have e : alkG (foS s p u) (foS s q v) (fu + 1) x y = false := by
            rw [alkG, hx, hy]
            simp only [foS, ht, decide_false, Bool.true_and, Bool.false_and]
          simp only [e20, r20_0, r20_2, r20_4, r20_7, r20_8, r20_9, r20_12, r20_15, r20_16, r20_17, r20_20, r20_23, r20_24, r20_25, r20_26, r20_29, r20_30, r20_31, r20_32, r20_35, r20_36, r20_37, r20_40, r20_41, r20_44, r20_45, r20_46, r20_47, r20_50, r20_51, r20_52, r20_55, r20_56, am_li0, am_liS, am_laR0, am_laS, f_oc hF, f_oc hG, f_typ hF, f_typ hG, fa_typ hF, fa_typ hG, c_hasB hF hn hu hun, c_hasB hG hn' hv hvn, hx, hy, hxi, hyi, ht, b1, b0, n1, h1, e, am_tL, not_true, not_false_eq_true, if_true, if_false, true_or, eq_self, am_okI, am_okR, List.length_cons, List.length_nil, Nat.reduceAdd, Nat.reduceLT, Nat.reduceLeDiff, Nat.zero_le, and_true, true_and]
      · have hy2 := hB _ hy
        have e : alkG (foS s p u) (foS s q v) (fu + 1) x y = false := by
          rw [alkG, hx, hy2]; rfl
        simp only [e20, r20_0, r20_2, r20_4, r20_7, r20_8, r20_9, r20_12, r20_15, r20_16, r20_17, r20_20, r20_23, r20_24, am_li0, am_liS, am_laR0, am_laS, f_oc hF, f_oc hG, c_hasB hF hn hu hun, c_hasB hG hn' hv hvn, hx, hy2, b1, b0, n1, h1, e, am_tL, not_true, if_true, if_false, true_or, eq_self, am_okI, am_okR, List.length_cons, List.length_nil, Nat.zero_le, and_true, true_and]
    · have hx2 := hB _ hx
      have e : alkG (foS s p u) (foS s q v) (fu + 1) x y = false := by
        rw [alkG, hx2]; rfl
      simp only [e20, r20_0, r20_2, r20_4, r20_7, r20_8, r20_9, r20_12, r20_15, r20_16, r20_17, r20_20, r20_23, r20_24, am_li0, am_liS, am_laR0, am_laS, f_oc hF, c_hasB hF hn hu hun, hx2, b0, h1, e, am_tL, if_true, if_false, true_or, eq_self, am_okI, am_okR, List.length_cons, List.length_nil, Nat.zero_le, and_true, true_and]
end
