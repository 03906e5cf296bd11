/-! A forest's methods, whatever it holds -/
/-- how many of the first n are x -/
def cnt (f : Nat → Int32) (x : Int32) : Nat → Nat
  | 0 => 0
  | n + 1 => cnt f x n + (if f n = x then 1 else 0)
theorem cnt_s (f : Nat → Int32) (x : Int32) (n : Nat) : cnt f x (n + 1) = cnt f x n + (if f n = x then 1 else 0) := rfl
theorem cnt_le (f : Nat → Int32) (x : Int32) : ∀ n, cnt f x n ≤ n
  | 0 => Nat.le_refl _
  | n + 1 => by
    have := cnt_le f x n
    unfold cnt
    split <;> omega
/-- the first from i on, among m, that is x and y -/
def fnd (f g : Nat → Int32) (x y : Int32) : Nat → Nat → Option Nat
  | 0, _ => none
  | m + 1, i => if f i = x ∧ g i = y then some i else fnd f g x y m (i + 1)
def oI (o : Option Nat) : Int32 := match o with
  | some n => nI n
  | none => -1
/-- places of the children of u from a on go one up, for the first i -/
def shU (f : Nat → Int32) (u a : Int32) (i : Nat) (g : Nat → Int32) : Nat → Int32 := fun j => if j < i ∧ f j = u ∧ a ≤ g j then g j + 1 else g j
theorem shU_0 (f : Nat → Int32) (u a : Int32) (g : Nat → Int32) : shU f u a 0 g = g := by
  funext j; unfold shU; rw [if_neg (fun h => Nat.not_lt_zero _ h.1)]
theorem shU_at (f : Nat → Int32) (u a : Int32) (i : Nat) (g : Nat → Int32) : shU f u a i g i = g i := by
  unfold shU; rw [if_neg (fun h => Nat.lt_irrefl _ h.1)]
theorem shU_y (f : Nat → Int32) (u a : Int32) (i : Nat) (g : Nat → Int32) (h1 : f i = u) (h2 : a ≤ g i) : upd (shU f u a i g) i (g i + 1) = shU f u a (i + 1) g := by
  funext j
  unfold upd
  by_cases h : j = i
  · subst h
    rw [if_pos rfl]
    unfold shU
    rw [if_pos ⟨by omega, h1, h2⟩]
  · rw [if_neg h]
    unfold shU
    by_cases h3 : j < i ∧ f j = u ∧ a ≤ g j
    · rw [if_pos h3, if_pos ⟨by omega, h3.2⟩]
    · rw [if_neg h3, if_neg (fun q => h3 ⟨by omega, q.2⟩)]
theorem shU_n (f : Nat → Int32) (u a : Int32) (i : Nat) (g : Nat → Int32) (h1 : ¬ (f i = u ∧ a ≤ g i)) : shU f u a i g = shU f u a (i + 1) g := by
  funext j
  unfold shU
  by_cases h3 : j < i ∧ f j = u ∧ a ≤ g j
  · rw [if_pos h3, if_pos ⟨by omega, h3.2⟩]
  · rw [if_neg h3, if_neg (fun q => h3 ⟨by
      have := q.1
      by_cases e : j = i
      · subst e; exact absurd q.2 h1
      · omega, q.2⟩)]
section
variable {L : Nat} {xs : Nat → Int32} {d : Nat} {s : St} {Q : Option Value → am_S → Prop} {p n u : Nat}
theorem c_cnt_loop (hF : isF p n) (hn : n < 2 ^ 31) (hu : s.2.1 p 4 = nI u) (hun : u ≤ n) {x : Int32} : ∀ (m i : Nat), u - i = m → i ≤ u →
    am_Rn L xs d 10 4 [.ref p, .int x, .int (nI (cnt (s.1 (p + 1)) x i)), .int (nI i)] [] (mk s) Q = Q (some (.int (nI (cnt (s.1 (p + 1)) x u)))) (mk s)
  | 0, i, hm, hi => by
    have e : i = u := by omega
    subst e
    have h1 : nI i ≤ nI i := nI_le (Nat.le_refl _) (by omega)
    simp only [r10_4, r10_5, r10_6, r10_9, r10_31, r10_32, am_li0, am_liS, am_laR0, f_used hF, hu, h1, if_true]
  | m + 1, i, hm, hi => by
    have h1 : ¬ nI u ≤ nI i := nI_ge (by omega) (by omega)
    have h2 : am_in (nI i) n = true := in_of (by omega) hn
    have h3 : (nI i).toNatClampNeg = i := nI_clamp (by omega)
    have ih := c_cnt_loop hF hn hu hun (x := x) m (i + 1) (by omega) (by omega)
    rw [r10_4]
    by_cases hx : s.1 (p + 1) i = x
    · have e : cnt (s.1 (p + 1)) x (i + 1) = cnt (s.1 (p + 1)) x i + 1 := by rw [cnt_s, if_pos hx]
      rw [e] at ih
      simp only [r10_5, r10_6, r10_9, r10_12, r10_13, r10_16, r10_17, r10_18, r10_19, r10_22, r10_25, r10_28, am_li0, am_liS, am_laR0, f_used hF, f_par hF, fa_par hF, hu, h1, h2, h3, hx, not_true, if_false, true_and, List.set_cons_succ, List.set_cons_zero, nI_1]
      exact ih
    · have e : cnt (s.1 (p + 1)) x (i + 1) = cnt (s.1 (p + 1)) x i := by rw [cnt_s, if_neg hx]; rfl
      rw [e] at ih
      simp only [r10_5, r10_6, r10_9, r10_12, r10_13, r10_16, r10_17, r10_18, r10_19, r10_22, r10_25, r10_28, am_li0, am_liS, am_laR0, f_used hF, f_par hF, fa_par hF, hu, h1, h2, h3, hx, not_false_eq_true, if_true, if_false, true_and, List.set_cons_succ, List.set_cons_zero, nI_1]
      exact ih
theorem c_childCount (hF : isF p n) (hn : n < 2 ^ 31) (hu : s.2.1 p 4 = nI u) (hun : u ≤ n) {x : Int32} : am_Call L xs d 10 [.ref p, .int x] (mk s) Q = Q (some (.int (nI (cnt (s.1 (p + 1)) x u)))) (mk s) := by
  have h := c_cnt_loop (L := L) (xs := xs) (d := d) (Q := Q) hF hn hu hun (x := x) u 0 (by omega) (by omega)
  simp only [e10, r10_0, r10_1, r10_2, r10_3, List.length_cons, List.length_nil, List.set_cons_succ, List.set_cons_zero, Nat.reduceAdd, Nat.reduceLT, true_and]
  exact h
theorem c_fnd_loop (hF : isF p n) (hn : n < 2 ^ 31) (hu : s.2.1 p 4 = nI u) (hun : u ≤ n) {x y : Int32} : ∀ (m i : Nat), u - i = m → i ≤ u →
    am_Rn L xs d 11 2 [.ref p, .int x, .int y, .int (nI i)] [] (mk s) Q = Q (some (.int (oI (fnd (s.1 (p + 1)) (s.1 (p + 2)) x y m i)))) (mk s)
  | 0, i, hm, hi => by
    have e : i = u := by omega
    subst e
    have h1 : nI i ≤ nI i := nI_le (Nat.le_refl _) (by omega)
    simp only [r11_2, r11_3, r11_4, r11_7, r11_38, r11_39, am_li0, am_liS, am_laR0, f_used hF, hu, h1, if_true, fnd, oI]
  | m + 1, i, hm, hi => by
    have h1 : ¬ nI u ≤ nI i := nI_ge (by omega) (by omega)
    have h2 : am_in (nI i) n = true := in_of (by omega) hn
    have h3 : (nI i).toNatClampNeg = i := nI_clamp (by omega)
    have ih := c_fnd_loop hF hn hu hun (x := x) (y := y) m (i + 1) (by omega) (by omega)
    rw [r11_2]
    by_cases hx : s.1 (p + 1) i = x
    · by_cases hy : s.1 (p + 2) i = y
      · simp only [r11_3, r11_4, r11_7, r11_10, r11_11, r11_14, r11_15, r11_16, r11_17, r11_20, r11_21, r11_24, r11_25, r11_26, r11_27, r11_30, r11_31, r11_32, r11_35, am_li0, am_liS, am_laR0, f_used hF, f_par hF, fa_par hF, f_pla hF, fa_pla hF, hu, h1, h2, h3, hx, hy, not_true, if_false, true_and, fnd, and_self, if_true, oI]
      · simp only [r11_3, r11_4, r11_7, r11_10, r11_11, r11_14, r11_15, r11_16, r11_17, r11_20, r11_21, r11_24, r11_25, r11_26, r11_27, r11_30, r11_31, r11_32, r11_35, am_li0, am_liS, am_laR0, f_used hF, f_par hF, fa_par hF, f_pla hF, fa_pla hF, hu, h1, h2, h3, hx, hy, not_true, not_false_eq_true, if_true, if_false, true_and, List.set_cons_succ, List.set_cons_zero, nI_1, fnd]
        exact ih
    · simp only [r11_3, r11_4, r11_7, r11_10, r11_11, r11_14, r11_15, r11_16, r11_17, r11_20, r11_21, r11_24, r11_25, r11_26, r11_27, r11_30, r11_31, r11_32, r11_35, am_li0, am_liS, am_laR0, f_used hF, f_par hF, fa_par hF, hu, h1, h2, h3, hx, not_false_eq_true, if_true, if_false, true_and, false_and, List.set_cons_succ, List.set_cons_zero, nI_1, fnd]
      exact ih
theorem c_childAt (hF : isF p n) (hn : n < 2 ^ 31) (hu : s.2.1 p 4 = nI u) (hun : u ≤ n) {x y : Int32} : am_Call L xs d 11 [.ref p, .int x, .int y] (mk s) Q = Q (some (.int (oI (fnd (s.1 (p + 1)) (s.1 (p + 2)) x y u 0)))) (mk s) := by
  have h := c_fnd_loop (L := L) (xs := xs) (d := d) (Q := Q) hF hn hu hun (x := x) (y := y) u 0 (by omega) (by omega)
  simp only [e11, r11_0, r11_1, List.length_cons, List.length_nil, List.set_cons_succ, List.set_cons_zero, Nat.reduceAdd, Nat.reduceLT, true_and]
  exact h
/-- make: the node's type and label; it may be the next number -/
theorem c_make (hF : isF p n) (hn : n < 2 ^ 31) (hu : s.2.1 p 4 = nI u) {k : Nat} (hk : k < n) {x y : Int32} (hun : u ≤ n) : am_Call L xs (d + 1) 12 [.ref p, .int (nI k), .int x, .int y] (mk s) Q =
    Q none (mk (va_up (va_up s.1 (p + 3) (upd (s.1 (p + 3)) k x)) (p + 4) (upd (s.1 (p + 4)) k y), am_u2 s.2.1 p 4 (nI (max u (k + 1))), s.2.2)) := by
  have h1 : ¬ nI k < 0 := nI_pos (by omega)
  have h2 : nI k < Int32.ofNat n := nI_lt hk hn
  have h3 : am_in (nI k) n = true := in_of hk hn
  have h4 : (nI k).toNatClampNeg = k := nI_clamp (by omega)
  have h7 : va_up s.1 (p + 3) (upd (s.1 (p + 3)) k x) (p + 4) = s.1 (p + 4) := up_ne _ _ (by omega)
  have h8 : (if nI u < nI (k + 1) then nI (k + 1) else nI u) = nI (max u (k + 1)) := by
    by_cases hc : u < k + 1
    · rw [if_pos (nI_lt hc (by omega)), Nat.max_eq_right (by omega)]
    · rw [if_neg (nI_nlt (by omega) (by omega)), Nat.max_eq_left (by omega)]
  simp only [e12, r12_0, r12_1, r12_4, r12_5, r12_6, r12_9, r12_10, r12_13, r12_14, r12_15, r12_18, r12_19, r12_20, r12_21, r12_22, r12_25, r12_26, r12_27, r12_28, r12_29, r12_30, r12_33, r12_34, r12_35, r12_36, r12_39, r12_42, am_li0, am_liS, am_laR0, f_par hF, f_typ hF, f_lab hF, f_used hF, fl_par hF, fw_typ hF, fw_lab hF, fv_used hF, hu, h1, h2, h3, h4, h7, nI_1, h8, if_true, if_false, List.length_cons, List.length_nil, Nat.reduceAdd, Nat.reduceLeDiff, true_and]
theorem c_put_loop (hF : isF p n) (hn : n < 2 ^ 31) (hu : s.2.1 p 4 = nI u) (hun : u ≤ n) {a b e w : Int32} : ∀ (m i : Nat), u - i = m → i ≤ u →
    am_Rn L xs d 13 38 [.ref p, .int a, .int w, .int b, .int e, .int (nI i)] [] (mk (va_up s.1 (p + 2) (shU (s.1 (p + 1)) w e i (s.1 (p + 2))), s.2)) Q =
    am_Rn L xs d 13 87 [.ref p, .int a, .int w, .int b, .int e, .int (nI u)] [] (mk (va_up s.1 (p + 2) (shU (s.1 (p + 1)) w e u (s.1 (p + 2))), s.2)) Q
  | 0, i, hm, hi => by
    have e1 : i = u := by omega
    subst e1
    have h1 : nI i ≤ nI i := nI_le (Nat.le_refl _) (by omega)
    rw [r13_38]
    simp only [r13_40, r13_41, r13_44, am_li0, am_liS, am_laR0, f_used hF, hu, h1, if_true]
  | m + 1, i, hm, hi => by
    have h1 : ¬ nI u ≤ nI i := nI_ge (by omega) (by omega)
    have h2 : am_in (nI i) n = true := in_of (by omega) hn
    have h3 : (nI i).toNatClampNeg = i := nI_clamp (by omega)
    have h5 : ∀ g : Nat → Int32, va_up s.1 (p + 2) g (p + 1) = s.1 (p + 1) := fun g => up_ne _ _ (by omega)
    have ih := c_put_loop hF hn hu hun (a := a) (b := b) (e := e) (w := w) m (i + 1) (by omega) (by omega)
    rw [r13_38]
    by_cases hx : s.1 (p + 1) i = w
    · by_cases hy : s.1 (p + 2) i < e
      · rw [← shU_n _ _ _ _ _ (fun q => Int32.not_le.mpr hy q.2)] at ih
        simp only [r13_40, r13_41, r13_44, r13_47, r13_48, r13_51, r13_53, r13_54, r13_55, r13_58, r13_59, r13_62, r13_64, r13_65, r13_67, r13_81, r13_84, am_li0, am_liS, am_laR0, f_used hF, f_par hF, fa_par hF, f_pla hF, fa_pla hF, hu, h1, h2, h3, h5, hx, hy, up_same, shU_at, not_true, if_true, if_false, true_and, List.set_cons_succ, List.set_cons_zero, nI_1]
        exact ih
      · rw [← shU_y _ _ _ _ _ hx (Int32.not_lt.mp hy)] at ih
        simp only [r13_40, r13_41, r13_44, r13_47, r13_48, r13_51, r13_53, r13_54, r13_55, r13_58, r13_59, r13_62, r13_64, r13_65, r13_67, r13_70, r13_71, r13_74, r13_76, r13_77, r13_78, r13_79, r13_80, r13_81, r13_84, am_li0, am_liS, am_laR0, f_used hF, f_par hF, fa_par hF, f_pla hF, fa_pla hF, fw_pla hF, hu, h1, h2, h3, h5, hx, hy, up_same, up_up, shU_at, am_okI, am_okR, Bool.and_self, not_true, if_true, if_false, true_and, List.set_cons_succ, List.set_cons_zero, nI_1]
        exact ih
    · rw [← shU_n _ _ _ _ _ (fun q => hx q.1)] at ih
      simp only [r13_40, r13_41, r13_44, r13_47, r13_48, r13_51, r13_53, r13_54, r13_55, r13_81, r13_84, am_li0, am_liS, am_laR0, f_used hF, f_par hF, fa_par hF, hu, h1, h2, h3, h5, hx, up_same, not_false_eq_true, if_true, if_false, true_and, List.set_cons_succ, List.set_cons_zero, nI_1]
      exact ih
/-- the place behind b -/
def plB (f g : Nat → Int32) (u : Nat) (b : Int32) : Int32 := if ∃ j, j < u ∧ b = nI j ∧ ¬ f j = -2 then g b.toNatClampNeg + 1 else 0
theorem c_put (hF : isF p n) (hn : n < 2 ^ 31) (hu : s.2.1 p 4 = nI u) (hun : u ≤ n) {k : Nat} (hk : k < u) {w b : Int32} : am_Call L xs (d + 1) 13 [.ref p, .int (nI k), .int w, .int b] (mk s) Q =
    Q none (mk (va_up (va_up s.1 (p + 1) (upd (s.1 (p + 1)) k w)) (p + 2) (upd (shU (s.1 (p + 1)) w (plB (s.1 (p + 1)) (s.1 (p + 2)) u b) u (s.1 (p + 2))) k (plB (s.1 (p + 1)) (s.1 (p + 2)) u b)), s.2)) := by
  have h1 : ¬ nI k < 0 := nI_pos (by omega)
  have h2 : nI k < nI u := nI_lt hk (by omega)
  have h3 : am_in (nI k) n = true := in_of (by omega) hn
  have h4 : (nI k).toNatClampNeg = k := nI_clamp (by omega)
  have key : ∀ e : Int32, am_Rn L xs (d + 1) 13 38 [.ref p, .int (nI k), .int w, .int b, .int e, .int 0] [] (mk s) Q =
      Q none (mk (va_up (va_up s.1 (p + 1) (upd (s.1 (p + 1)) k w)) (p + 2) (upd (shU (s.1 (p + 1)) w e u (s.1 (p + 2))) k e), s.2)) := by
    intro e
    have hl := c_put_loop (L := L) (xs := xs) (d := d + 1) (Q := Q) hF hn hu hun (a := nI k) (b := b) (e := e) (w := w) u 0 (by omega) (by omega)
    rw [shU_0, up_self] at hl
    refine Eq.trans hl ?_
    have h5 : ∀ g : Nat → Int32, va_up s.1 (p + 2) g (p + 1) = s.1 (p + 1) := fun g => up_ne _ _ (by omega)
    have h6 : ∀ (A : Nat → Nat → Int32) (g : Nat → Int32), va_up A (p + 1) g (p + 2) = A (p + 2) := fun A g => up_ne _ _ (by omega)
    have h7 : ∀ (g g1 g2 : Nat → Int32), va_up (va_up (va_up s.1 (p + 2) g) (p + 1) g1) (p + 2) g2 = va_up (va_up s.1 (p + 1) g1) (p + 2) g2 := by
      intro g g1 g2
      funext q
      unfold va_up
      by_cases e1 : q = p + 2
      · simp [e1]
      · by_cases e2 : q = p + 1 <;> simp [e1, e2]
    simp only [r13_87, r13_88, r13_91, r13_92, r13_93, r13_94, r13_95, r13_98, r13_99, r13_101, r13_102, am_li0, am_liS, am_laR0, f_par hF, f_pla hF, fw_par hF, fw_pla hF, h3, h4, h5, h6, h7, up_same, true_and]
  by_cases hb : ∃ j, j < u ∧ b = nI j ∧ ¬ s.1 (p + 1) j = -2
  · have e0 : plB (s.1 (p + 1)) (s.1 (p + 2)) u b = s.1 (p + 2) b.toNatClampNeg + 1 := if_pos hb
    have hb2 : am_in b n = true := by
      obtain ⟨j, q1, rfl, -⟩ := hb
      exact in_of (by omega) hn
    have h9 : ¬ (1 : Int32) = 0 := by decide
    rw [e0, ← key]
    simp only [e13, r13_0, r13_1, r13_4, r13_5, r13_6, r13_9, r13_12, r13_13, r13_14, r13_15, r13_18, r13_21, r13_22, r13_25, r13_26, r13_27, r13_28, r13_29, r13_32, r13_33, r13_35, r13_36, am_li0, am_liS, am_laR0, am_tL, f_used hF, f_pla hF, fa_pla hF, f_oc hF, c_has hF hn hu hun, hu, h1, h2, hb, hb2, h9, if_true, if_false, am_okI, List.length_cons, List.length_nil, List.set_cons_succ, List.set_cons_zero, Nat.reduceAdd, Nat.reduceLT, Nat.zero_le, and_true, true_and]
  · have e0 : plB (s.1 (p + 1)) (s.1 (p + 2)) u b = 0 := if_neg hb
    rw [e0, ← key]
    simp only [e13, r13_0, r13_1, r13_4, r13_5, r13_6, r13_9, r13_12, r13_13, r13_14, r13_15, r13_18, r13_21, r13_22, r13_25, r13_26, r13_27, r13_28, r13_29, r13_32, r13_33, r13_35, r13_36, am_li0, am_liS, am_laR0, am_tL, f_used hF, f_oc hF, c_has hF hn hu hun, hu, h1, h2, hb, if_true, if_false, am_okI, List.length_cons, List.length_nil, List.set_cons_succ, List.set_cons_zero, Nat.reduceAdd, Nat.reduceLT, Nat.zero_le, and_true, true_and]
end
