/-! The likeliest partner, on both sides -/
/-- how many of the first n bits are set -/
def pc (k : Nat) : Nat → Nat
  | 0 => 0
  | n + 1 => pc k n + (if k.testBit n = true then 1 else 0)
/-- a shift to the right without the sign -/
def us (a b : Int32) : Int32 := (a.toUInt32 >>> (b.toUInt32 &&& Int32.toUInt32 31)).toInt32
def bc1 (a : Int32) : Int32 := a - (us a 1 &&& 1431655765)
def bc2 (a : Int32) : Int32 := (a &&& 858993459) + (us a 2 &&& 858993459)
def bc3 (a : Int32) : Int32 := (a + us a 4) &&& 252645135
def bc4 (a : Int32) : Int32 := a + us a 8
def bc5 (a : Int32) : Int32 := (a + us a 16) &&& 63
theorem bc_ab : ∀ a b : Fin 64, bc5 (bc4 (bc3 (bc2 (bc1 (nI (64 * a.val + b.val)))))) = nI (pc (64 * a.val + b.val) 12) := by decide +kernel
theorem bc_all {k : Nat} (hk : k < 4096) : bc5 (bc4 (bc3 (bc2 (bc1 (nI k))))) = nI (pc k 12) := by
  have h := bc_ab ⟨k / 64, by omega⟩ ⟨k % 64, by omega⟩
  dsimp only at h
  rw [show 64 * (k / 64) + k % 64 = k by omega] at h
  exact h
theorem pc_cB {t : Tr} {a k : Nat} (h : ∀ b, k.testBit b = true ↔ b < t.1 ∧ bl t a b = true) : ∀ n, pc k n = cB t a n
  | 0 => rfl
  | n + 1 => by
    have e : (k.testBit n = true) = (LF t a n = true) := propext (by
      rw [h]
      unfold LF
      rw [Bool.and_eq_true, decide_eq_true_iff])
    show pc k n + (if k.testBit n = true then 1 else 0) = cB t a n + (if LF t a n = true then 1 else 0)
    rw [pc_cB h n]
    congr 1
    by_cases q : LF t a n = true
    · rw [if_pos q, if_pos (e ▸ q)]
    · rw [if_neg q, if_neg (fun z => q (e ▸ z))]
/-- who, share, below -/
abbrev Lk : Type := Option Nat × Nat × Nat
def lkB (t w : Tr) (x y : Nat) : Nat := cB t x 12 + cB w y 12
def lkP (t w : Tr) (M : Pr) (x : Nat) (A : Lk) (y : Nat) : Prop := M.2 y = none ∧ t.2.2.1 x = w.2.2.1 y ∧ 1 ≤ sh t w M.1 x y t.1 ∧ lkB t w x y ≤ 4 * sh t w M.1 x y t.1 ∧ A.2.1 * lkB t w x y < sh t w M.1 x y t.1 * A.2.2
def lk1 (t w : Tr) (M : Pr) (x : Nat) (A : Lk) (y : Nat) : Lk := if M.2 y = none ∧ t.2.2.1 x = w.2.2.1 y ∧ 1 ≤ sh t w M.1 x y t.1 ∧ lkB t w x y ≤ 4 * sh t w M.1 x y t.1 ∧ A.2.1 * lkB t w x y < sh t w M.1 x y t.1 * A.2.2 then (some y, sh t w M.1 x y t.1, lkB t w x y) else A
def lkF (t w : Tr) (M : Pr) (x : Nat) : Nat → Nat → Lk → Lk
  | 0, _, A => A
  | m + 1, y, A => lkF t w M x m (y + 1) (lk1 t w M x A y)
theorem lkF_s (t w : Tr) (M : Pr) (x m y : Nat) (A : Lk) : lkF t w M x (m + 1) y A = lkF t w M x m (y + 1) (lk1 t w M x A y) := rfl
theorem lk1_y {t w : Tr} {M : Pr} {x : Nat} {A : Lk} {y : Nat} (h : lkP t w M x A y) : lk1 t w M x A y = (some y, sh t w M.1 x y t.1, lkB t w x y) := if_pos h
theorem lk1_n {t w : Tr} {M : Pr} {x : Nat} {A : Lk} {y : Nat} (h : ¬ lkP t w M x A y) : lk1 t w M x A y = A := if_neg h
def lkW (w : Tr) (A : Lk) : Prop := A.2.1 ≤ 12 ∧ A.2.2 ≤ 24 ∧ ∀ y, A.1 = some y → y < w.1
theorem lk1_W {t w : Tr} {M : Pr} {x : Nat} {A : Lk} {y : Nat} (hw : tW t) (hy : y < w.1) (h : lkW w A) : lkW w (lk1 t w M x A y) := by
  by_cases q : lkP t w M x A y
  · rw [lk1_y q]
    have h1 := sh_le t w M.1 x y t.1
    have h2 := hw.1
    have h3 := cB_le t x 12
    have h4 := cB_le w y 12
    exact ⟨by dsimp only; omega, by dsimp only [lkB]; omega, fun z hz => by cases hz; exact hy⟩
  · rw [lk1_n q]; exact h
theorem lkF_W {t w : Tr} {M : Pr} {x : Nat} (hw : tW t) : ∀ m y A, y + m ≤ w.1 → lkW w A → lkW w (lkF t w M x m y A)
  | 0, _, _, _, h => h
  | m + 1, y, A, hm, h => lkF_W hw m (y + 1) _ (by omega) (lk1_W hw (by omega) h)
section
variable {L : Nat} {xs : Nat → Int32} {d : Nat} {s : St}
theorem c_bit {k : Nat} (hk : k < 4096) {σ : am_S} {Q : Option Value → am_S → Prop} : am_Call L xs d 36 [.int (nI k)] σ Q = Q (some (.int (nI (pc k 12)))) σ := by
  rw [← bc_all hk]
  simp only [e36, r36_0, r36_1, r36_2, r36_3, r36_4, r36_7, r36_8, r36_9, r36_10, r36_11, r36_14, r36_15, r36_16, r36_17, r36_18, r36_21, r36_22, r36_23, r36_24, r36_25, r36_26, r36_27, r36_28, r36_29, r36_32, r36_33, r36_34, r36_35, r36_36, r36_38, r36_39, r36_40, r36_41, r36_42, r36_43, r36_45, r36_46, r36_47, r36_48, r36_49, r36_51, r36_52, am_li0, List.length_cons, List.length_nil, List.set_cons_zero, Nat.reduceAdd, Nat.reduceLT, true_and]
  rfl
theorem c_lk_loop {P a b : Nat} {t w : Tr} {H : Nat → Nat} {M : Pr} (hQ : cQ s P a b t w H M) {x : Nat} (hx : x < t.1) {Q : Option Value → am_S → Prop} : ∀ (m y : Nat) (A : Lk) (v6 v7 v8 : Value), w.1 - y = m → y ≤ w.1 → lkW w A →
    am_Rn L xs (d + 1) 35 10 [.ref P, .int (nI x), .int (oI A.1), .int (nI A.2.1), .int (nI A.2.2), .int (nI y), v6, v7, v8] [] (mk s) Q = Q (some (.int (oI (lkF t w M x m y A).1))) (mk s) := by
  obtain ⟨hL, hK, -, hM, hp, hw, hw'⟩ := hQ
  have hL' := hL
  obtain ⟨hP, hA, hB, g1, g2, c1, c2, ⟨Bf, f1, f2⟩, ⟨Bt, f3, f4⟩⟩ := hL
  have h12 := hw.1
  have h12' := hw'.1
  have x1 : am_in (nI x) 12 = true := in_of (by omega) (by decide)
  have x2 : (nI x).toNatClampNeg = x := nI_clamp (by omega)
  have tx := (c1.2.1 x hx).2.2.1
  have n1 : ¬ (1 : Int32) = 0 := by decide
  intro m
  induction m with
  | zero =>
    intro y A v6 v7 v8 hm hy hW
    have e : y = w.1 := by omega
    subst e
    have h1 : nI w.1 ≤ nI w.1 := nI_le (Nat.le_refl _) (by omega)
    rw [r35_10]
    simp only [r35_12, r35_13, r35_16, r35_19, r35_144, r35_145, am_li0, am_liS, am_laR0, p_7 hP, g2, f_used hB, c2.1, h1, if_true, lkF]
  | succ m ih =>
    intro y A v6 v7 v8 hm hy hW
    have h1 : ¬ nI w.1 ≤ nI y := nI_ge (by omega) (by omega)
    have y1 : am_in (nI y) 12 = true := in_of (by omega) (by decide)
    have y2 : (nI y).toNatClampNeg = y := nI_clamp (by omega)
    have eo := (hM y (by omega)).2
    have ty := (c2.2.1 y (by omega)).2.2.1
    have hW1 := lk1_W (M := M) (x := x) hw (show y < w.1 by omega) hW
    rw [lkF_s]
    cases hu : M.2 y with
    | some u =>
      have hu12 := (hp.2 y u hu).2
      rw [hu, oI_some] at eo
      have ne : ¬ nI u = -1 := nI_m1 u (by omega)
      have e : lk1 t w M x A y = A := lk1_n (fun q => by have := q.1; rw [hu] at this; cases this)
      rw [e]
      have ih := ih (y + 1) A v6 v7 v8 (by omega) (by omega) hW
      rw [← ih, r35_10]
      simp only [r35_12, r35_13, r35_16, r35_19, r35_22, r35_23, r35_26, r35_28, r35_29, r35_30, r35_138, r35_141, am_li0, am_liS, am_laR0, p_1 hP, p_7 hP, p_a2 hP, g2, f_used hB, c2.1, h1, y1, y2, eo, ne, nI_1, not_false_eq_true, if_true, if_false, List.set_cons_succ, List.set_cons_zero, true_and]
    | none =>
      rw [hu, oI_none] at eo
      by_cases ht : t.2.2.1 x = w.2.2.1 y
      · have hs := fun Q => c_share (L := L) (xs := xs) (d := d) (Q := Q) hL' hw hw' hM hp hx (show y < w.1 by omega)
        have eb1 : s.1 (P + 4) x = nI (Bf x) := f2 x (by omega)
        have eb2 : s.1 (P + 5) y = nI (Bt y) := f4 y (by omega)
        have p1 := fun Q => c_bit (L := L) (xs := xs) (d := d) (σ := mk s) (f1.1 x) (Q := Q)
        have p2 := fun Q => c_bit (L := L) (xs := xs) (d := d) (σ := mk s) (f3.1 y) (Q := Q)
        rw [pc_cB (f1.2 x)] at p1
        rw [pc_cB (f3.2 y)] at p2
        have eS : ∃ S, sh t w M.1 x y t.1 = S := ⟨_, rfl⟩
        obtain ⟨S, eS⟩ := eS
        have hS := sh_le t w M.1 x y t.1
        have b1 := cB_le t x 12
        have b2 := cB_le w y 12
        have eB : nI (cB t x 12) + nI (cB w y 12) = nI (lkB t w x y) := nI_add _ _
        have hBb : lkB t w x y ≤ 24 := by unfold lkB; omega
        obtain ⟨o, A1, A2⟩ := A
        have hW' := hW
        obtain ⟨w1, w2, w3⟩ := hW
        dsimp only at w1 w2
        have m1 : A1 * lkB t w x y ≤ 12 * 24 := Nat.mul_le_mul w1 hBb
        have m2 : S * A2 ≤ 12 * 24 := Nat.mul_le_mul (by omega) w2
        have e4 : (4 : Int32) * nI S = nI (4 * S) := pk_mul 4 S
        have e5 : nI S * nI A2 = nI (S * A2) := pk_mul _ _
        have e6 : nI A1 * nI (lkB t w x y) = nI (A1 * lkB t w x y) := pk_mul _ _
        by_cases q1 : 1 ≤ S
        · have r1 : ¬ nI S < 1 := nI_nlt (b := 1) q1 (by omega)
          by_cases q2 : lkB t w x y ≤ 4 * S
          · have r2 : ¬ nI (4 * S) < nI (lkB t w x y) := nI_nlt q2 (by omega)
            by_cases q3 : A1 * lkB t w x y < S * A2
            · have r3 : ¬ nI (S * A2) ≤ nI (A1 * lkB t w x y) := nI_ge q3 (by omega)
              have e : lk1 t w M x (o, A1, A2) y = (some y, S, lkB t w x y) := by
                have := lk1_y (t := t) (w := w) (M := M) (x := x) (A := (o, A1, A2)) (y := y) ⟨hu, ht, by rw [eS]; exact q1, by rw [eS]; exact q2, by rw [eS]; exact q3⟩
                rw [this, eS]
              rw [e] at hW1 ⊢
              have ih := ih (y + 1) (some y, S, lkB t w x y) (.int (nI S)) (.int (nI (lkB t w x y))) (.int 1) (by omega) (by omega) hW1
              dsimp only at ih ⊢
              rw [oI_some] at ih
              rw [← ih, r35_10]
              simp only [r35_12, r35_13, r35_16, r35_19, r35_22, r35_23, r35_26, r35_28, r35_29, r35_30, r35_33, r35_34, r35_37, r35_40, r35_41, r35_42, r35_43, r35_46, r35_49, r35_51, r35_52, r35_58, r35_59, r35_60, r35_62, r35_65, r35_67, r35_68, r35_71, r35_72, r35_73, r35_76, r35_77, r35_80, r35_82, r35_83, r35_86, r35_87, r35_89, r35_91, r35_92, r35_95, r35_96, r35_98, r35_99, r35_101, r35_104, r35_105, r35_109, r35_111, r35_113, r35_116, r35_118, r35_120, r35_121, r35_122, r35_124, r35_125, r35_128, r35_130, r35_131, r35_133, r35_134, r35_136, r35_138, r35_141, am_li0, am_liS, am_laR0, p_oc hP, p_1 hP, p_3 hP, p_4 hP, p_6 hP, p_7 hP, p_a2 hP, p_a4 hP, p_a5 hP, g1, g2, f_used hB, f_typ hA, f_typ hB, fa_typ hA, fa_typ hB, c2.1, h1, x1, x2, y1, y2, eo, tx, ty, ht, hs, eS, eb1, eb2, p1, p2, eB, e4, e5, e6, r1, r2, r3, n1, nI_1, am_tL, am_okI, not_true, if_true, if_false, List.length_cons, List.length_nil, List.set_cons_succ, List.set_cons_zero, Nat.reduceAdd, Nat.reduceLT, Nat.reduceLeDiff, Nat.zero_le, and_true, true_and]
            · have r3 : nI (S * A2) ≤ nI (A1 * lkB t w x y) := nI_le (by omega) (by omega)
              have e : lk1 t w M x (o, A1, A2) y = (o, A1, A2) := lk1_n (fun q => q3 (by have := q.2.2.2.2; rw [eS] at this; exact this))
              rw [e]
              have ih := ih (y + 1) (o, A1, A2) (.int (nI S)) (.int (nI (lkB t w x y))) (.int 1) (by omega) (by omega) hW'
              dsimp only at ih ⊢
              rw [← ih, r35_10]
              simp only [r35_12, r35_13, r35_16, r35_19, r35_22, r35_23, r35_26, r35_28, r35_29, r35_30, r35_33, r35_34, r35_37, r35_40, r35_41, r35_42, r35_43, r35_46, r35_49, r35_51, r35_52, r35_58, r35_59, r35_60, r35_62, r35_65, r35_67, r35_68, r35_71, r35_72, r35_73, r35_76, r35_77, r35_80, r35_82, r35_83, r35_86, r35_87, r35_89, r35_91, r35_92, r35_95, r35_96, r35_98, r35_99, r35_101, r35_104, r35_105, r35_109, r35_111, r35_113, r35_116, r35_118, r35_120, r35_121, r35_122, r35_124, r35_125, r35_138, r35_141, am_li0, am_liS, am_laR0, p_oc hP, p_1 hP, p_3 hP, p_4 hP, p_6 hP, p_7 hP, p_a2 hP, p_a4 hP, p_a5 hP, g1, g2, f_used hB, f_typ hA, f_typ hB, fa_typ hA, fa_typ hB, c2.1, h1, x1, x2, y1, y2, eo, tx, ty, ht, hs, eS, eb1, eb2, p1, p2, eB, e4, e5, e6, r1, r2, r3, n1, nI_1, am_tL, am_okI, not_true, if_true, if_false, List.length_cons, List.length_nil, List.set_cons_succ, List.set_cons_zero, Nat.reduceAdd, Nat.reduceLT, Nat.reduceLeDiff, Nat.zero_le, and_true, true_and]
          · have r2 : nI (4 * S) < nI (lkB t w x y) := nI_lt (by omega) (by omega)
            have e : lk1 t w M x (o, A1, A2) y = (o, A1, A2) := lk1_n (fun q => q2 (by have := q.2.2.2.1; rw [eS] at this; exact this))
            rw [e]
            have ih := ih (y + 1) (o, A1, A2) (.int (nI S)) (.int (nI (lkB t w x y))) (.int 0) (by omega) (by omega) hW'
            dsimp only at ih ⊢
            rw [← ih, r35_10]
            simp only [r35_12, r35_13, r35_16, r35_19, r35_22, r35_23, r35_26, r35_28, r35_29, r35_30, r35_33, r35_34, r35_37, r35_40, r35_41, r35_42, r35_43, r35_46, r35_49, r35_51, r35_52, r35_58, r35_59, r35_60, r35_62, r35_65, r35_67, r35_68, r35_71, r35_72, r35_73, r35_76, r35_77, r35_80, r35_82, r35_83, r35_86, r35_87, r35_89, r35_91, r35_92, r35_95, r35_96, r35_98, r35_99, r35_101, r35_108, r35_109, r35_111, r35_113, r35_138, r35_141, am_li0, am_liS, am_laR0, p_oc hP, p_1 hP, p_3 hP, p_4 hP, p_6 hP, p_7 hP, p_a2 hP, p_a4 hP, p_a5 hP, g1, g2, f_used hB, f_typ hA, f_typ hB, fa_typ hA, fa_typ hB, c2.1, h1, x1, x2, y1, y2, eo, tx, ty, ht, hs, eS, eb1, eb2, p1, p2, eB, e4, r1, r2, nI_1, am_tL, am_okI, not_true, if_true, if_false, List.length_cons, List.length_nil, List.set_cons_succ, List.set_cons_zero, Nat.reduceAdd, Nat.reduceLT, Nat.reduceLeDiff, Nat.zero_le, and_true, true_and]
        · have r1 : nI S < 1 := nI_lt (b := 1) (by omega) (by decide)
          have e : lk1 t w M x (o, A1, A2) y = (o, A1, A2) := lk1_n (fun q => q1 (by have := q.2.2.1; rw [eS] at this; exact this))
          rw [e]
          have ih := ih (y + 1) (o, A1, A2) (.int (nI S)) (.int (nI (lkB t w x y))) (.int 0) (by omega) (by omega) hW'
          dsimp only at ih ⊢
          rw [← ih, r35_10]
          simp only [r35_12, r35_13, r35_16, r35_19, r35_22, r35_23, r35_26, r35_28, r35_29, r35_30, r35_33, r35_34, r35_37, r35_40, r35_41, r35_42, r35_43, r35_46, r35_49, r35_51, r35_52, r35_58, r35_59, r35_60, r35_62, r35_65, r35_67, r35_68, r35_71, r35_72, r35_73, r35_76, r35_77, r35_80, r35_82, r35_83, r35_86, r35_87, r35_89, r35_91, r35_92, r35_108, r35_109, r35_111, r35_113, r35_138, r35_141, am_li0, am_liS, am_laR0, p_oc hP, p_1 hP, p_3 hP, p_4 hP, p_6 hP, p_7 hP, p_a2 hP, p_a4 hP, p_a5 hP, g1, g2, f_used hB, f_typ hA, f_typ hB, fa_typ hA, fa_typ hB, c2.1, h1, x1, x2, y1, y2, eo, tx, ty, ht, hs, eS, eb1, eb2, p1, p2, eB, r1, nI_1, am_tL, am_okI, not_true, if_true, if_false, List.length_cons, List.length_nil, List.set_cons_succ, List.set_cons_zero, Nat.reduceAdd, Nat.reduceLT, Nat.reduceLeDiff, Nat.zero_le, and_true, true_and]
      · have e : lk1 t w M x A y = A := lk1_n (fun q => ht q.2.1)
        rw [e]
        have ih := ih (y + 1) A v6 v7 v8 (by omega) (by omega) hW
        rw [← ih, r35_10]
        simp only [r35_12, r35_13, r35_16, r35_19, r35_22, r35_23, r35_26, r35_28, r35_29, r35_30, r35_33, r35_34, r35_37, r35_40, r35_41, r35_42, r35_43, r35_46, r35_49, r35_51, r35_52, r35_55, r35_138, r35_141, am_li0, am_liS, am_laR0, p_1 hP, p_6 hP, p_7 hP, p_a2 hP, g1, g2, f_used hB, f_typ hA, f_typ hB, fa_typ hA, fa_typ hB, c2.1, h1, x1, x2, y1, y2, eo, tx, ty, ht, nI_1, not_true, if_true, if_false, List.set_cons_succ, List.set_cons_zero, true_and]
/-- the likeliest partner of x -/
def lkA (t w : Tr) (M : Pr) (x : Nat) : Option Nat := (lkF t w M x w.1 0 (none, 0, 1)).1
theorem c_likely {P a b : Nat} {t w : Tr} {H : Nat → Nat} {M : Pr} (hQ : cQ s P a b t w H M) {x : Nat} (hx : x < t.1) {Q : Option Value → am_S → Prop} : am_Call L xs (d + 1) 35 [.ref P, .int (nI x)] (mk s) Q = Q (some (.int (oI (lkA t w M x)))) (mk s) := by
  have hl := c_lk_loop (L := L) (xs := xs) (d := d) hQ hx (Q := Q) w.1 0 (none, 0, 1) (.retAddr 0) (.retAddr 0) (.retAddr 0) (by omega) (by omega) ⟨by decide, by decide, fun y hy => by cases hy⟩
  have hl : am_Rn L xs (d + 1) 35 10 [.ref P, .int (nI x), .int (-1), .int 0, .int 1, .int 0, .retAddr 0, .retAddr 0, .retAddr 0] [] (mk s) Q = Q (some (.int (oI (lkA t w M x)))) (mk s) := hl
  simp only [e35, r35_0, r35_1, r35_2, r35_3, r35_4, r35_5, r35_7, r35_8, List.length_cons, List.length_nil, List.set_cons_succ, List.set_cons_zero, Nat.reduceAdd, Nat.reduceLT, true_and]
  exact hl
end
