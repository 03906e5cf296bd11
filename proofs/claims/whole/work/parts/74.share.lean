/-! Partners: where they lie; share, on both sides -/
/-- partners of the one side, owners of the other -/
abbrev Pr : Type := (Nat → Option Nat) × (Nat → Option Nat)
def pW (t w : Tr) (M : Pr) : Prop := (∀ n v, M.1 n = some v → n < t.1 ∧ v < w.1) ∧ ∀ v n, M.2 v = some n → v < w.1 ∧ n < t.1
/-- two arrays hold them -/
def pM (g1 g2 : Nat → Int32) (M : Pr) : Prop := ∀ n, n < 12 → g1 n = oI (M.1 n) ∧ g2 n = oI (M.2 n)
/-- n is shared by x and y -/
def shB (t w : Tr) (μ : Nat → Option Nat) (x y n : Nat) : Bool := match μ n with
  | some v => bl t x n && bl w y v
  | none => false
def sh (t w : Tr) (μ : Nat → Option Nat) (x y : Nat) : Nat → Nat
  | 0 => 0
  | n + 1 => sh t w μ x y n + (if shB t w μ x y n = true then 1 else 0)
theorem sh_s (t w : Tr) (μ : Nat → Option Nat) (x y n : Nat) : sh t w μ x y (n + 1) = sh t w μ x y n + (if shB t w μ x y n = true then 1 else 0) := rfl
theorem sh_le (t w : Tr) (μ : Nat → Option Nat) (x y : Nat) : ∀ n, sh t w μ x y n ≤ n
  | 0 => Nat.le_refl _
  | n + 1 => by
    have := sh_le t w μ x y n
    rw [sh_s]
    split <;> omega
theorem sh_0 (t w : Tr) (μ : Nat → Option Nat) (x y : Nat) : ∀ n, n ≤ x + 1 → sh t w μ x y n = 0
  | 0, _ => rfl
  | n + 1, h => by
    rw [sh_s, sh_0 t w μ x y n (by omega), if_neg]
    unfold shB
    cases μ n with
    | none => exact Bool.false_ne_true
    | some v =>
      intro q
      rw [Bool.and_eq_true] at q
      have := bl_lt q.1
      omega
/-- the partners' object at P -/
def isP (P : Nat) : Prop := in_sk[P]? = some (.inr (.inr (3, [.inl (P + 1), .inl (P + 2), .inl (P + 3), .inl (P + 4), .inl (P + 5), .inl (P + 6), .inr 1, .inr 1]))) ∧ ∀ k, 0 < k → k < 7 → in_sk[P + k]? = some (.inl (0, 12))
theorem isP_k {P : Nat} (h : P = 24 ∨ P = 60 ∨ P = 90) : isP P := by
  rcases h with rfl | rfl | rfl
  · refine ⟨rfl, fun k h1 h2 => ?_⟩
    match k, h1, h2 with
    | 1, _, _ => rfl
    | 2, _, _ => rfl
    | 3, _, _ => rfl
    | 4, _, _ => rfl
    | 5, _, _ => rfl
    | 6, _, _ => rfl
  · refine ⟨rfl, fun k h1 h2 => ?_⟩
    match k, h1, h2 with
    | 1, _, _ => rfl
    | 2, _, _ => rfl
    | 3, _, _ => rfl
    | 4, _, _ => rfl
    | 5, _, _ => rfl
    | 6, _, _ => rfl
  · refine ⟨rfl, fun k h1 h2 => ?_⟩
    match k, h1, h2 with
    | 1, _, _ => rfl
    | 2, _, _ => rfl
    | 3, _, _ => rfl
    | 4, _, _ => rfl
    | 5, _, _ => rfl
    | 6, _, _ => rfl
section
variable {s : St} {P : Nat}
theorem p_oc (h : isP P) : am_oc (mk s) P = 3 := mk_oc h.1
theorem p_0 (h : isP P) {f : Value → Prop} : am_fd (mk s) P 3 0 f = f (.ref (P + 1)) := mk_fd (.inl (P + 1)) h.1 rfl
theorem p_1 (h : isP P) {f : Value → Prop} : am_fd (mk s) P 3 1 f = f (.ref (P + 2)) := mk_fd (.inl (P + 2)) h.1 rfl
theorem p_2 (h : isP P) {f : Value → Prop} : am_fd (mk s) P 3 2 f = f (.ref (P + 3)) := mk_fd (.inl (P + 3)) h.1 rfl
theorem p_3 (h : isP P) {f : Value → Prop} : am_fd (mk s) P 3 3 f = f (.ref (P + 4)) := mk_fd (.inl (P + 4)) h.1 rfl
theorem p_4 (h : isP P) {f : Value → Prop} : am_fd (mk s) P 3 4 f = f (.ref (P + 5)) := mk_fd (.inl (P + 5)) h.1 rfl
theorem p_5 (h : isP P) {f : Value → Prop} : am_fd (mk s) P 3 5 f = f (.ref (P + 6)) := mk_fd (.inl (P + 6)) h.1 rfl
theorem p_6 (h : isP P) {f : Value → Prop} : am_fd (mk s) P 3 6 f = f (.ref (s.2.2 P 6)) := mk_fd (.inr 1) h.1 rfl
theorem p_7 (h : isP P) {f : Value → Prop} : am_fd (mk s) P 3 7 f = f (.ref (s.2.2 P 7)) := mk_fd (.inr 1) h.1 rfl
theorem p_a1 (h : isP P) {i : Int32} {f : Int32 → Prop} : am_ai 0 (mk s) (P + 1) i f = (am_in i 12 = true ∧ f (s.1 (P + 1) i.toNatClampNeg)) := am_k_ai (sk := in_sk) (h.2 1 (by decide) (by decide))
theorem p_a2 (h : isP P) {i : Int32} {f : Int32 → Prop} : am_ai 0 (mk s) (P + 2) i f = (am_in i 12 = true ∧ f (s.1 (P + 2) i.toNatClampNeg)) := am_k_ai (sk := in_sk) (h.2 2 (by decide) (by decide))
theorem p_a3 (h : isP P) {i : Int32} {f : Int32 → Prop} : am_ai 0 (mk s) (P + 3) i f = (am_in i 12 = true ∧ f (s.1 (P + 3) i.toNatClampNeg)) := am_k_ai (sk := in_sk) (h.2 3 (by decide) (by decide))
theorem p_a4 (h : isP P) {i : Int32} {f : Int32 → Prop} : am_ai 0 (mk s) (P + 4) i f = (am_in i 12 = true ∧ f (s.1 (P + 4) i.toNatClampNeg)) := am_k_ai (sk := in_sk) (h.2 4 (by decide) (by decide))
theorem p_a5 (h : isP P) {i : Int32} {f : Int32 → Prop} : am_ai 0 (mk s) (P + 5) i f = (am_in i 12 = true ∧ f (s.1 (P + 5) i.toNatClampNeg)) := am_k_ai (sk := in_sk) (h.2 5 (by decide) (by decide))
theorem p_a6 (h : isP P) {i : Int32} {f : Int32 → Prop} : am_ai 0 (mk s) (P + 6) i f = (am_in i 12 = true ∧ f (s.1 (P + 6) i.toNatClampNeg)) := am_k_ai (sk := in_sk) (h.2 6 (by decide) (by decide))
theorem p_w1 (h : isP P) {i x : Int32} {f : am_S → Prop} : am_wi 0 (mk s) (P + 1) i x f = (am_in i 12 = true ∧ f (mk (va_up s.1 (P + 1) (upd (s.1 (P + 1)) i.toNatClampNeg x), s.2))) := am_k_wi (sk := in_sk) (h.2 1 (by decide) (by decide))
theorem p_w2 (h : isP P) {i x : Int32} {f : am_S → Prop} : am_wi 0 (mk s) (P + 2) i x f = (am_in i 12 = true ∧ f (mk (va_up s.1 (P + 2) (upd (s.1 (P + 2)) i.toNatClampNeg x), s.2))) := am_k_wi (sk := in_sk) (h.2 2 (by decide) (by decide))
theorem p_w6 (h : isP P) {i x : Int32} {f : am_S → Prop} : am_wi 0 (mk s) (P + 6) i x f = (am_in i 12 = true ∧ f (mk (va_up s.1 (P + 6) (upd (s.1 (P + 6)) i.toNatClampNeg x), s.2))) := am_k_wi (sk := in_sk) (h.2 6 (by decide) (by decide))
end
/-- what the class has looked up before it joins -/
def cL (s : St) (P a b : Nat) (t w : Tr) : Prop := isP P ∧ isF a 12 ∧ isF b 12 ∧ s.2.2 P 6 = a ∧ s.2.2 P 7 = b ∧ cT s a t ∧ cT s b w ∧ (∃ B, blM t B ∧ ∀ n, n < 12 → s.1 (P + 4) n = nI (B n)) ∧ ∃ B, blM w B ∧ ∀ n, n < 12 → s.1 (P + 5) n = nI (B n)
section
variable {L : Nat} {xs : Nat → Int32} {d : Nat} {s : St} {Q : Option Value → am_S → Prop}
theorem c_share_loop {P a b : Nat} {t w : Tr} {M : Pr} (hL : cL s P a b t w) (hw : tW t) (hw' : tW w) (hM : pM (s.1 (P + 1)) (s.1 (P + 2)) M) (hp : pW t w M) {x y : Nat} (hx : x < t.1) (hy : y < w.1) : ∀ (m i : Nat) (v5 : Value), t.1 - i = m → i ≤ t.1 →
    am_Rn L xs d 31 7 [.ref P, .int (nI x), .int (nI y), .int (nI (sh t w M.1 x y i)), .int (nI i), v5] [] (mk s) Q = Q (some (.int (nI (sh t w M.1 x y t.1)))) (mk s) := by
  obtain ⟨hP, hA, hB, g1, g2, c1, c2, ⟨Bf, f1, f2⟩, ⟨Bt, f3, f4⟩⟩ := hL
  have h12 := hw.1
  have h12' := hw'.1
  have n1 : ¬ (1 : Int32) = 0 := by decide
  have b0 : bI false = 0 := rfl
  have b1 : bI true = 1 := rfl
  intro m
  induction m with
  | zero =>
    intro i v5 hm hi
    have e : i = t.1 := by omega
    subst e
    have h1 : nI t.1 ≤ nI t.1 := nI_le (Nat.le_refl _) (by omega)
    rw [r31_7]
    simp only [r31_9, r31_10, r31_13, r31_16, r31_84, r31_85, am_li0, am_liS, am_laR0, p_6 hP, g1, f_used hA, c1.1, h1, if_true]
  | succ m ih =>
    intro i v5 hm hi
    have h1 : ¬ nI t.1 ≤ nI i := nI_ge (by omega) (by omega)
    have x1 : am_in (nI x) 12 = true := in_of (by omega) (by decide)
    have x2 : (nI x).toNatClampNeg = x := nI_clamp (by omega)
    have y1 : am_in (nI y) 12 = true := in_of (by omega) (by decide)
    have y2 : (nI y).toNatClampNeg = y := nI_clamp (by omega)
    have i1 : am_in (nI i) 12 = true := in_of (by omega) (by decide)
    have i2 : (nI i).toNatClampNeg = i := nI_clamp (by omega)
    have e1 : ∀ b : Bool, bl t x i = b → s.1 (P + 4) x >>> (nI i &&& 31) &&& 1 = bI b := by
      intro b hb
      have := f1.1 x
      rw [f2 x (by omega), nI_bit (by omega) (by omega)]
      congr 1
      rw [← hb, Bool.eq_iff_iff, f1.2]
      exact ⟨fun q => q.2, fun q => ⟨by omega, q⟩⟩
    have em := (hM i (by omega)).1
    rw [r31_7]
    have go : ∀ (v : Value) (Q : Option Value → am_S → Prop), True := fun _ _ => trivial
    cases hb : bl t x i with
    | false =>
      have es : sh t w M.1 x y (i + 1) = sh t w M.1 x y i := by
        rw [sh_s, if_neg]
        · rfl
        · unfold shB
          cases M.1 i with
          | none => exact Bool.false_ne_true
          | some v => rw [hb]; exact Bool.false_ne_true
      have ih := ih (i + 1) (.int 0) (by omega) (by omega)
      rw [es] at ih
      have e2 := e1 false hb
      simp only [r31_9, r31_10, r31_13, r31_16, r31_19, r31_20, r31_23, r31_24, r31_25, r31_27, r31_28, r31_29, r31_30, r31_48, r31_49, r31_51, r31_53, r31_78, r31_81, am_li0, am_liS, am_laR0, p_6 hP, p_3 hP, p_a4 hP, g1, f_used hA, c1.1, h1, x1, x2, e2, b0, nI_1, if_true, if_false, List.length_cons, List.length_nil, List.set_cons_succ, List.set_cons_zero, Nat.reduceAdd, Nat.reduceLT, true_and]
      exact ih
    | true =>
      have e2 := e1 true hb
      cases hv : M.1 i with
      | none =>
        have es : sh t w M.1 x y (i + 1) = sh t w M.1 x y i := by
          rw [sh_s, if_neg]
          · rfl
          · unfold shB
            rw [hv]; exact Bool.false_ne_true
        have ih := ih (i + 1) (.int 0) (by omega) (by omega)
        rw [es] at ih
        rw [hv, oI_none] at em
        simp only [r31_9, r31_10, r31_13, r31_16, r31_19, r31_20, r31_23, r31_24, r31_25, r31_27, r31_28, r31_29, r31_30, r31_33, r31_34, r31_37, r31_39, r31_40, r31_41, r31_48, r31_49, r31_51, r31_53, r31_78, r31_81, am_li0, am_liS, am_laR0, p_0 hP, p_6 hP, p_3 hP, p_a1 hP, p_a4 hP, g1, f_used hA, c1.1, h1, x1, x2, i1, i2, em, e2, b1, n1, nI_1, if_true, if_false, List.length_cons, List.length_nil, List.set_cons_succ, List.set_cons_zero, Nat.reduceAdd, Nat.reduceLT, true_and]
        exact ih
      | some v =>
        have hv12 := (hp.1 i v hv).2
        rw [hv, oI_some] at em
        have ne : ¬ nI v = -1 := nI_m1 v (by omega)
        have e3 : ∀ b : Bool, bl w y v = b → s.1 (P + 5) y >>> (nI v &&& 31) &&& 1 = bI b := by
          intro b hb
          have := f3.1 y
          rw [f4 y (by omega), nI_bit (by omega) (by omega)]
          congr 1
          rw [← hb, Bool.eq_iff_iff, f3.2]
          exact ⟨fun q => q.2, fun q => ⟨by omega, q⟩⟩
        have ih := ih (i + 1) (.int 1) (by omega) (by omega)
        cases hb2 : bl w y v with
        | false =>
          have es : sh t w M.1 x y (i + 1) = sh t w M.1 x y i := by
            rw [sh_s, if_neg]
            · rfl
            · unfold shB
              rw [hv, hb]
              dsimp only
              rw [hb2]; exact Bool.false_ne_true
          rw [es] at ih
          have e4 := e3 false hb2
          simp only [r31_9, r31_10, r31_13, r31_16, r31_19, r31_20, r31_23, r31_24, r31_25, r31_27, r31_28, r31_29, r31_30, r31_33, r31_34, r31_37, r31_39, r31_40, r31_41, r31_44, r31_45, r31_49, r31_51, r31_53, r31_56, r31_57, r31_60, r31_61, r31_62, r31_63, r31_66, r31_68, r31_69, r31_70, r31_71, r31_72, r31_78, r31_81, am_li0, am_liS, am_laR0, p_0 hP, p_6 hP, p_3 hP, p_4 hP, p_a1 hP, p_a4 hP, p_a5 hP, g1, f_used hA, c1.1, h1, x1, x2, y1, y2, i1, i2, em, ne, e2, e4, b0, b1, n1, nI_1, if_true, if_false, List.length_cons, List.length_nil, List.set_cons_succ, List.set_cons_zero, Nat.reduceAdd, Nat.reduceLT, true_and]
          exact ih
        | true =>
          have es : sh t w M.1 x y (i + 1) = sh t w M.1 x y i + 1 := by
            rw [sh_s, if_pos]
            unfold shB
            rw [hv, hb]
            dsimp only
            rw [hb2]; rfl
          rw [es] at ih
          have e4 := e3 true hb2
          simp only [r31_9, r31_10, r31_13, r31_16, r31_19, r31_20, r31_23, r31_24, r31_25, r31_27, r31_28, r31_29, r31_30, r31_33, r31_34, r31_37, r31_39, r31_40, r31_41, r31_44, r31_45, r31_49, r31_51, r31_53, r31_56, r31_57, r31_60, r31_61, r31_62, r31_63, r31_66, r31_68, r31_69, r31_70, r31_71, r31_72, r31_75, r31_78, r31_81, am_li0, am_liS, am_laR0, p_0 hP, p_6 hP, p_3 hP, p_4 hP, p_a1 hP, p_a4 hP, p_a5 hP, g1, f_used hA, c1.1, h1, x1, x2, y1, y2, i1, i2, em, ne, e2, e4, b1, n1, nI_1, if_true, if_false, List.length_cons, List.length_nil, List.set_cons_succ, List.set_cons_zero, Nat.reduceAdd, Nat.reduceLT, true_and]
          exact ih
theorem c_share {P a b : Nat} {t w : Tr} {M : Pr} (hL : cL s P a b t w) (hw : tW t) (hw' : tW w) (hM : pM (s.1 (P + 1)) (s.1 (P + 2)) M) (hp : pW t w M) {x y : Nat} (hx : x < t.1) (hy : y < w.1) :
    am_Call L xs d 31 [.ref P, .int (nI x), .int (nI y)] (mk s) Q = Q (some (.int (nI (sh t w M.1 x y t.1)))) (mk s) := by
  have hl := c_share_loop (L := L) (xs := xs) (d := d) (Q := Q) hL hw hw' hM hp hx hy (t.1 - (x + 1)) (x + 1) (.retAddr 0) rfl (by omega)
  rw [sh_0 t w M.1 x y (x + 1) (Nat.le_refl _)] at hl
  have hl : am_Rn L xs d 31 7 [.ref P, .int (nI x), .int (nI y), .int 0, .int (nI (x + 1)), .retAddr 0] [] (mk s) Q = _ := hl
  simp only [e31, r31_0, r31_1, r31_2, r31_3, r31_4, r31_5, am_li0, am_liS, nI_1, List.length_cons, List.length_nil, List.set_cons_succ, List.set_cons_zero, Nat.reduceAdd, Nat.reduceLT, true_and]
  exact hl
end
