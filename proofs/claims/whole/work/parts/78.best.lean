/-! The best pair of alike twigs, on both sides -/
/-- x, y, height, share -/
abbrev Bs : Type := Option (Nat × Nat × Nat × Nat)
def bsH : Bs → Nat
  | none => 0
  | some q => q.2.2.1
def bsT : Bs → Nat
  | none => 1
  | some q => q.2.2.1
def bsS : Bs → Nat
  | none => 0
  | some q => q.2.2.2
def bsXi : Bs → Int32
  | none => -1
  | some q => nI q.1
def bsYi : Bs → Int32
  | none => -1
  | some q => nI q.2.1
def bsB : Bs → Int32
  | none => -1
  | some q => nI (12 * q.1 + q.2.1)
theorem bsX_s (x y h s : Nat) : bsXi (some (x, y, h, s)) = nI x := rfl
theorem bsY_s (x y h s : Nat) : bsYi (some (x, y, h, s)) = nI y := rfl
theorem bsH_s (x y h s : Nat) : bsH (some (x, y, h, s)) = h := rfl
theorem bsT_s (x y h s : Nat) : bsT (some (x, y, h, s)) = h := rfl
theorem bsS_s (x y h s : Nat) : bsS (some (x, y, h, s)) = s := rfl
theorem bsB_s (x y h s : Nat) : bsB (some (x, y, h, s)) = nI (12 * x + y) := rfl
/-- whether x and y are better -/
def bsP (t w : Tr) (H : Nat → Nat) (M : Pr) (A : Bs) (x y : Nat) : Prop := frA t w H M x y = true ∧ bsH A ≤ H x ∧ (bsH A < H x ∨ bsS A < shP t w M x y)
def bs1 (t w : Tr) (H : Nat → Nat) (M : Pr) (A : Bs) (x y : Nat) : Bs := if frA t w H M x y = true ∧ bsH A ≤ H x ∧ (bsH A < H x ∨ bsS A < shP t w M x y) then some (x, y, H x, shP t w M x y) else A
def bsF (t w : Tr) (H : Nat → Nat) (M : Pr) (x : Nat) : Nat → Nat → Bs → Bs
  | 0, _, A => A
  | m + 1, y, A => bsF t w H M x m (y + 1) (bs1 t w H M A x y)
def bsG (t w : Tr) (H : Nat → Nat) (M : Pr) : Nat → Nat → Bs → Bs
  | 0, _, A => A
  | m + 1, x, A => bsG t w H M m (x + 1) (bsF t w H M x w.1 0 A)
theorem bs1_y {t w : Tr} {H : Nat → Nat} {M : Pr} {A : Bs} {x y : Nat} (h : bsP t w H M A x y) : bs1 t w H M A x y = some (x, y, H x, shP t w M x y) := if_pos h
theorem bs1_n {t w : Tr} {H : Nat → Nat} {M : Pr} {A : Bs} {x y : Nat} (h : ¬ bsP t w H M A x y) : bs1 t w H M A x y = A := if_neg h
theorem bsF_s (t w : Tr) (H : Nat → Nat) (M : Pr) (x m y : Nat) (A : Bs) : bsF t w H M x (m + 1) y A = bsF t w H M x m (y + 1) (bs1 t w H M A x y) := rfl
theorem bsG_s (t w : Tr) (H : Nat → Nat) (M : Pr) (m x : Nat) (A : Bs) : bsG t w H M (m + 1) x A = bsG t w H M m (x + 1) (bsF t w H M x w.1 0 A) := rfl
theorem bsF_n {t w : Tr} {H : Nat → Nat} {M : Pr} {A : Bs} {x : Nat} (h : ∀ y, ¬ bsP t w H M A x y) : ∀ m y, bsF t w H M x m y A = A
  | 0, _ => rfl
  | m + 1, y => by rw [bsF_s, bs1_n (h y), bsF_n h]
/-- the best so far is a fit pair -/
def bsW (t w : Tr) (H : Nat → Nat) (M : Pr) (A : Bs) : Prop := ∀ q, A = some q → q.1 < t.1 ∧ q.2.1 < w.1 ∧ q.2.2.1 = H q.1 ∧ 2 ≤ q.2.2.1 ∧ q.2.2.1 ≤ 12 ∧ q.2.2.2 ≤ 12 ∧ frA t w H M q.1 q.2.1 = true
theorem frA_H {t w : Tr} {H : Nat → Nat} {M : Pr} {x y : Nat} (h : frA t w H M x y = true) : 2 ≤ H x ∧ alN t w x y = true ∧ M.1 x = none ∧ M.2 y = none := by
  unfold frA at h
  rw [Bool.and_eq_true, Bool.and_eq_true, Bool.and_eq_true, decide_eq_true_iff, Option.isNone_iff_eq_none, Option.isNone_iff_eq_none] at h
  exact ⟨h.1.1.1, h.1.1.2, h.1.2, h.2⟩
theorem shP_le (t w : Tr) (M : Pr) (x y : Nat) : shP t w M x y ≤ t.1 := by
  unfold shP
  split
  · exact Nat.zero_le _
  · exact sh_le _ _ _ _ _ _
theorem bs1_W {t w : Tr} {H : Nat → Nat} {M : Pr} {A : Bs} {x y : Nat} (hw : tW t) (hH : hP t H) (hx : x < t.1) (hy : y < w.1) (h : bsW t w H M A) : bsW t w H M (bs1 t w H M A x y) := by
  by_cases hb : bsP t w H M A x y
  · rw [bs1_y hb]
    intro q hq
    cases hq
    have h1 := hH.2.2.2 x hx
    have h2 := hw.1
    have h3 := shP_le t w M x y
    exact ⟨hx, hy, rfl, (frA_H hb.1).1, by dsimp only; omega, by dsimp only; omega, hb.1⟩
  · rw [bs1_n hb]; exact h
theorem bsF_W {t w : Tr} {H : Nat → Nat} {M : Pr} {x : Nat} (hw : tW t) (hH : hP t H) (hx : x < t.1) : ∀ m y A, y + m ≤ w.1 → bsW t w H M A → bsW t w H M (bsF t w H M x m y A)
  | 0, _, _, _, h => h
  | m + 1, y, A, hm, h => bsF_W hw hH hx m (y + 1) _ (by omega) (bs1_W hw hH hx (by omega) h)
theorem bsG_W {t w : Tr} {H : Nat → Nat} {M : Pr} (hw : tW t) (hH : hP t H) : ∀ m x A, x + m ≤ t.1 → bsW t w H M A → bsW t w H M (bsG t w H M m x A)
  | 0, _, _, _, h => h
  | m + 1, x, A, hm, h => bsG_W hw hH m (x + 1) _ (by omega) (bsF_W hw hH (by omega) w.1 0 A (by omega) h)
/-- all that the class needs to join -/
def cQ (s : St) (P a b : Nat) (t w : Tr) (H : Nat → Nat) (M : Pr) : Prop := cL s P a b t w ∧ cK s P a b t w H ∧ (∀ n, n < t.1 → akR t w H n w.1 (s.1 (P + 6) n)) ∧ pM (s.1 (P + 1)) (s.1 (P + 2)) M ∧ pW t w M ∧ tW t ∧ tW w
/-- all that the reference needs to join -/
def mQ (s : St) (j j' : Nat) (t w : Tr) (H : Nat → Nat) (M : Pr) : Prop := mL s j j' t w H ∧ (∀ a c, a < t.1 → c < w.1 → s.1 128 (12 * a + c) = bI (alN t w a c)) ∧ pM (s.1 126) (s.1 127) M ∧ pW t w M ∧ tW t ∧ tW w
section
variable {L : Nat} {xs : Nat → Int32} {d : Nat} {s : St}
theorem c_best_in {P a b : Nat} {t w : Tr} {H : Nat → Nat} {M : Pr} (hQ : cQ s P a b t w H M) {x : Nat} (hx : x < t.1) : ∀ (m y : Nat) (A : Bs) (v7 : Value), w.1 - y = m → y ≤ w.1 → bsW t w H M A →
    ∃ v7' : Value, ∀ Q : Option Value → am_S → Prop, am_Rn L xs (d + 2) 28 27 [.ref P, .int (bsXi A), .int (bsYi A), .int (nI (bsH A)), .int (nI (bsS A)), .int (nI x), .int (nI y), v7] [] (mk s) Q =
    am_Rn L xs (d + 2) 28 116 [.ref P, .int (bsXi (bsF t w H M x m y A)), .int (bsYi (bsF t w H M x m y A)), .int (nI (bsH (bsF t w H M x m y A))), .int (nI (bsS (bsF t w H M x m y A))), .int (nI x), .int (nI w.1), v7'] [] (mk s) Q := by
  obtain ⟨hL, hK, hA, hM, hp, hw, hw'⟩ := hQ
  have h12 := hw.1
  have h12' := hw'.1
  have hP := hK.1
  have hB := hK.2.2.1
  have g2 := hK.2.2.2.2.2.1
  have c2 := hK.2.2.2.2.2.2.2.1
  have hH := hK.2.2.2.2.2.2.2.2.1
  have hh := hK.2.2.2.2.2.2.2.2.2 x (by omega)
  have hHx := hH.2.2.2 x hx
  have x1 : am_in (nI x) 12 = true := in_of (by omega) (by decide)
  have x2 : (nI x).toNatClampNeg = x := nI_clamp (by omega)
  have n1 : ¬ (1 : Int32) = 0 := by decide
  have b0 : bI false = 0 := rfl
  have b1 : bI true = 1 := rfl
  intro m
  induction m with
  | zero =>
    intro y A v7 hm hy hA'
    have e : y = w.1 := by omega
    subst e
    have h1 : nI w.1 ≤ nI w.1 := nI_le (Nat.le_refl _) (by omega)
    refine ⟨v7, fun Q => ?_⟩
    rw [r28_27]
    simp only [r28_29, r28_30, r28_33, r28_36, am_li0, am_liS, am_laR0, p_7 hP, g2, f_used hB, c2.1, h1, if_true, bsF]
  | succ m ih =>
    intro y A v7 hm hy hA'
    have h1 : ¬ nI w.1 ≤ nI y := nI_ge (by omega) (by omega)
    have hfree := fun Q => c_free (L := L) (xs := xs) (d := d + 1) (Q := Q) hP hw hw' hM hp hx (show y < w.1 by omega) (hA x hx)
    have hshp := fun Q => c_shareOfParents (L := L) (xs := xs) (d := d) (Q := Q) hL hw hw' hM hp hx (show y < w.1 by omega)
    have hs12 := shP_le t w M x y
    have bA : bsH A ≤ 12 ∧ bsS A ≤ 12 := by
      cases A with
      | none => exact ⟨Nat.zero_le _, Nat.zero_le _⟩
      | some q => have := hA' q rfl; exact ⟨this.2.2.2.2.1, this.2.2.2.2.2.1⟩
    rw [bsF_s]
    have hW1 := bs1_W hw hH hx (show y < w.1 by omega) hA'
    cases hf : frA t w H M x y with
    | false =>
      rw [hf, b0] at hfree
      have e : bs1 t w H M A x y = A := bs1_n (fun q => Bool.false_ne_true (hf.symm.trans q.1))
      rw [e] at hW1 ⊢
      obtain ⟨v7', hr⟩ := ih (y + 1) A v7 (by omega) (by omega) hW1
      refine ⟨v7', fun Q => ?_⟩
      rw [← hr Q, r28_27]
      simp only [r28_29, r28_30, r28_33, r28_36, r28_39, r28_40, r28_42, r28_44, r28_47, r28_110, r28_113, am_li0, am_liS, am_laR0, p_oc hP, p_7 hP, g2, f_used hB, c2.1, h1, hfree, nI_1, am_tL, am_okI, if_true, if_false, List.length_cons, List.length_nil, List.set_cons_succ, List.set_cons_zero, Nat.reduceAdd, Nat.zero_le, and_true, true_and]
    | true =>
      rw [hf, b1] at hfree
      by_cases hle : bsH A ≤ H x
      · have q1 : nI (bsH A) ≤ nI (H x) := nI_le hle (by omega)
        by_cases hlt : bsH A < H x
        · have e : bs1 t w H M A x y = some (x, y, H x, shP t w M x y) := bs1_y ⟨hf, hle, Or.inl hlt⟩
          have q2 : nI (bsH A) < nI (H x) := nI_lt hlt (by omega)
          rw [e] at hW1 ⊢
          obtain ⟨v7', hr⟩ := ih (y + 1) _ (.int (nI (shP t w M x y))) (by omega) (by omega) hW1
          refine ⟨v7', fun Q => ?_⟩
          rw [← hr Q, r28_27]
          simp only [r28_29, r28_30, r28_33, r28_36, r28_39, r28_40, r28_42, r28_44, r28_47, r28_50, r28_51, r28_54, r28_56, r28_57, r28_58, r28_64, r28_65, r28_67, r28_69, r28_72, r28_74, r28_75, r28_78, r28_80, r28_81, r28_82, r28_92, r28_94, r28_95, r28_97, r28_98, r28_99, r28_102, r28_104, r28_105, r28_106, r28_108, r28_110, r28_113, am_li0, am_liS, am_laR0, p_oc hP, p_2 hP, p_7 hP, p_a3 hP, g2, f_used hB, c2.1, h1, x1, x2, hh, hfree, hshp, q1, q2, n1, nI_1, bsX_s, bsY_s, bsH_s, bsS_s, am_tL, am_okI, if_true, if_false, List.length_cons, List.length_nil, List.set_cons_succ, List.set_cons_zero, Nat.reduceAdd, Nat.reduceLT, Nat.zero_le, and_true, true_and]
        · have q2 : ¬ nI (bsH A) < nI (H x) := nI_nlt (by omega) (by omega)
          by_cases hss : bsS A < shP t w M x y
          · have e : bs1 t w H M A x y = some (x, y, H x, shP t w M x y) := bs1_y ⟨hf, hle, Or.inr hss⟩
            have q3 : ¬ nI (shP t w M x y) ≤ nI (bsS A) := nI_ge hss (by omega)
            rw [e] at hW1 ⊢
            obtain ⟨v7', hr⟩ := ih (y + 1) _ (.int (nI (shP t w M x y))) (by omega) (by omega) hW1
            refine ⟨v7', fun Q => ?_⟩
            rw [← hr Q, r28_27]
            simp only [r28_29, r28_30, r28_33, r28_36, r28_39, r28_40, r28_42, r28_44, r28_47, r28_50, r28_51, r28_54, r28_56, r28_57, r28_58, r28_64, r28_65, r28_67, r28_69, r28_72, r28_74, r28_75, r28_78, r28_80, r28_81, r28_82, r28_85, r28_87, r28_89, r28_92, r28_94, r28_95, r28_97, r28_98, r28_99, r28_102, r28_104, r28_105, r28_106, r28_108, r28_110, r28_113, am_li0, am_liS, am_laR0, p_oc hP, p_2 hP, p_7 hP, p_a3 hP, g2, f_used hB, c2.1, h1, x1, x2, hh, hfree, hshp, q1, q2, q3, n1, nI_1, bsX_s, bsY_s, bsH_s, bsS_s, am_tL, am_okI, if_true, if_false, List.length_cons, List.length_nil, List.set_cons_succ, List.set_cons_zero, Nat.reduceAdd, Nat.reduceLT, Nat.zero_le, and_true, true_and]
          · have e : bs1 t w H M A x y = A := bs1_n (fun q => by rcases q.2.2 with z | z <;> omega)
            have q3 : nI (shP t w M x y) ≤ nI (bsS A) := nI_le (by omega) (by omega)
            rw [e] at hW1 ⊢
            obtain ⟨v7', hr⟩ := ih (y + 1) _ (.int (nI (shP t w M x y))) (by omega) (by omega) hW1
            refine ⟨v7', fun Q => ?_⟩
            rw [← hr Q, r28_27]
            simp only [r28_29, r28_30, r28_33, r28_36, r28_39, r28_40, r28_42, r28_44, r28_47, r28_50, r28_51, r28_54, r28_56, r28_57, r28_58, r28_64, r28_65, r28_67, r28_69, r28_72, r28_74, r28_75, r28_78, r28_80, r28_81, r28_82, r28_85, r28_87, r28_89, r28_110, r28_113, am_li0, am_liS, am_laR0, p_oc hP, p_2 hP, p_7 hP, p_a3 hP, g2, f_used hB, c2.1, h1, x1, x2, hh, hfree, hshp, q1, q2, q3, n1, nI_1, am_tL, am_okI, if_true, if_false, List.length_cons, List.length_nil, List.set_cons_succ, List.set_cons_zero, Nat.reduceAdd, Nat.reduceLT, Nat.zero_le, and_true, true_and]
      · have e : bs1 t w H M A x y = A := bs1_n (fun q => hle q.2.1)
        have q1 : ¬ nI (bsH A) ≤ nI (H x) := nI_ge (by omega) (by omega)
        rw [e] at hW1 ⊢
        obtain ⟨v7', hr⟩ := ih (y + 1) A v7 (by omega) (by omega) hW1
        refine ⟨v7', fun Q => ?_⟩
        rw [← hr Q, r28_27]
        simp only [r28_29, r28_30, r28_33, r28_36, r28_39, r28_40, r28_42, r28_44, r28_47, r28_50, r28_51, r28_54, r28_56, r28_57, r28_58, r28_61, r28_110, r28_113, am_li0, am_liS, am_laR0, p_oc hP, p_2 hP, p_7 hP, p_a3 hP, g2, f_used hB, c2.1, h1, x1, x2, hh, hfree, q1, n1, nI_1, am_tL, am_okI, if_true, if_false, List.length_cons, List.length_nil, List.set_cons_succ, List.set_cons_zero, Nat.reduceAdd, Nat.zero_le, and_true, true_and]
theorem c_best_out {P a b : Nat} {t w : Tr} {H : Nat → Nat} {M : Pr} (hQ : cQ s P a b t w H M) : ∀ (m x : Nat) (A : Bs) (v6 v7 : Value), t.1 - x = m → x ≤ t.1 → bsW t w H M A →
    ∃ v6' v7' : Value, ∀ Q : Option Value → am_S → Prop, am_Rn L xs (d + 2) 28 12 [.ref P, .int (bsXi A), .int (bsYi A), .int (nI (bsH A)), .int (nI (bsS A)), .int (nI x), v6, v7] [] (mk s) Q =
    am_Rn L xs (d + 2) 28 122 [.ref P, .int (bsXi (bsG t w H M m x A)), .int (bsYi (bsG t w H M m x A)), .int (nI (bsH (bsG t w H M m x A))), .int (nI (bsS (bsG t w H M m x A))), .int (nI t.1), v6', v7'] [] (mk s) Q
  | 0, x, A, v6, v7, hm, hx, hW => by
    obtain ⟨hL, hK, hA, hM, hp, hw, hw'⟩ := hQ
    have h12 := hw.1
    have hP := hK.1
    have hF := hK.2.1
    have g1 := hK.2.2.2.2.1
    have c1 := hK.2.2.2.2.2.2.1
    have e : x = t.1 := by omega
    subst e
    have h1 : nI t.1 ≤ nI t.1 := nI_le (Nat.le_refl _) (by omega)
    refine ⟨v6, v7, fun Q => ?_⟩
    rw [r28_12]
    simp only [r28_14, r28_15, r28_18, r28_21, am_li0, am_liS, am_laR0, p_6 hP, g1, f_used hF, c1.1, h1, if_true, bsG]
  | m + 1, x, A, v6, v7, hm, hx, hW => by
    have hQ' := hQ
    obtain ⟨hL, hK, hA, hM, hp, hw, hw'⟩ := hQ
    have h12 := hw.1
    have hP := hK.1
    have hF := hK.2.1
    have g1 := hK.2.2.2.2.1
    have c1 := hK.2.2.2.2.2.2.1
    have hH := hK.2.2.2.2.2.2.2.2.1
    have h1 : ¬ nI t.1 ≤ nI x := nI_ge (by omega) (by omega)
    obtain ⟨v7a, r1⟩ := c_best_in (L := L) (xs := xs) (d := d) hQ' (show x < t.1 by omega) w.1 0 A v7 (by omega) (by omega) hW
    obtain ⟨v6', v7', r2⟩ := c_best_out hQ' m (x + 1) (bsF t w H M x w.1 0 A) (.int (nI w.1)) v7a (by omega) (by omega) (bsF_W hw hH (by omega) w.1 0 A (by omega) hW)
    refine ⟨v6', v7', fun Q => ?_⟩
    have r1 : am_Rn L xs (d + 2) 28 27 [.ref P, .int (bsXi A), .int (bsYi A), .int (nI (bsH A)), .int (nI (bsS A)), .int (nI x), .int 0, v7] [] (mk s) Q = _ := r1 Q
    rw [bsG_s, ← r2 Q, r28_12]
    simp only [r28_14, r28_15, r28_18, r28_21, r28_24, r28_25, am_li0, am_liS, am_laR0, p_6 hP, g1, f_used hF, c1.1, h1, if_false, List.length_cons, List.length_nil, List.set_cons_succ, List.set_cons_zero, Nat.reduceAdd, Nat.reduceLT, true_and]
    rw [r1]
    simp only [r28_116, r28_119, am_li0, am_liS, nI_1, List.set_cons_succ, List.set_cons_zero]
end
