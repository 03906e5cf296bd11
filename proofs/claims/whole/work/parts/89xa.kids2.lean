/-! Children in the result; equal, the class's side -/
/-- the k-th in line with parent x -/
def kdL (a : Nat → Int32) (x : Int32) : List Nat → Nat → Option Nat
  | [], _ => none
  | z :: r, k => if a z = x then (if k = 0 then some z else kdL a x r (k - 1)) else kdL a x r k
theorem kdL_c (a : Nat → Int32) (x : Int32) (z : Nat) (r : List Nat) (k : Nat) : kdL a x (z :: r) k = if a z = x then (if k = 0 then some z else kdL a x r (k - 1)) else kdL a x r k := rfl
theorem kdL_some {a : Nat → Int32} {x : Int32} : ∀ {l : List Nat} {k z : Nat}, l.Nodup → kdL a x l k = some z → z ∈ l ∧ a z = x ∧ plL a x l z = k
  | [], k, z, _, h => by cases h
  | w :: r, k, z, hn, h => by
    rw [List.nodup_cons] at hn
    rw [kdL_c] at h
    by_cases e : a w = x
    · rw [if_pos e] at h
      by_cases e0 : k = 0
      · rw [if_pos e0] at h
        cases h
        exact ⟨List.mem_cons_self, e, by rw [plL_c, if_pos rfl, e0]⟩
      · rw [if_neg e0] at h
        obtain ⟨h1, h2, h3⟩ := kdL_some hn.2 h
        have hwz : ¬ w = z := fun q => hn.1 (by rw [q]; exact h1)
        exact ⟨List.mem_cons_of_mem _ h1, h2, by rw [plL_c, if_neg hwz, if_pos e, h3]; omega⟩
    · rw [if_neg e] at h
      obtain ⟨h1, h2, h3⟩ := kdL_some hn.2 h
      have hwz : ¬ w = z := fun q => hn.1 (by rw [q]; exact h1)
      exact ⟨List.mem_cons_of_mem _ h1, h2, by rw [plL_c, if_neg hwz, if_neg e, h3]; omega⟩
theorem kdL_none {a : Nat → Int32} {x : Int32} : ∀ {l : List Nat} {k : Nat}, kdL a x l k = none ↔ ctL a x l ≤ k
  | [], k => ⟨fun _ => Nat.zero_le _, fun _ => rfl⟩
  | w :: r, k => by
    rw [kdL_c, ctL_c]
    by_cases e : a w = x
    · rw [if_pos e]
      by_cases e0 : k = 0
      · rw [if_pos e0, if_pos e]
        exact ⟨fun q => (by cases q), fun q => by omega⟩
      · rw [if_neg e0, if_pos e, kdL_none]
        omega
    · rw [if_neg e, if_neg e, kdL_none]
      omega
theorem plL_inj {a : Nat → Int32} {x : Int32} : ∀ {l : List Nat} {z w : Nat}, z ∈ l → w ∈ l → a z = x → a w = x → plL a x l z = plL a x l w → z = w
  | [], _, _, h, _, _, _, _ => by cases h
  | v :: r, z, w, hz, hw, az, aw, h => by
    rw [plL_c, plL_c] at h
    by_cases e1 : v = z
    · by_cases e2 : v = w
      · rw [← e1, e2]
      · rw [if_pos e1, if_neg e2, e1, if_pos az] at h; omega
    · by_cases e2 : v = w
      · rw [if_neg e1, if_pos e2, e2, if_pos aw] at h; omega
      · rw [if_neg e1, if_neg e2] at h
        refine plL_inj (l := r) ?_ ?_ az aw (by omega)
        · rcases List.mem_cons.mp hz with q | q
          · exact absurd q.symm e1
          · exact q
        · rcases List.mem_cons.mp hw with q | q
          · exact absurd q.symm e2
          · exact q
/-- counting by numbers is counting along the line -/
theorem cnt_ctL {a f : Nat → Int32} {x : Int32} (hx : x ≠ -2) : ∀ (u : Nat) (l : List Nat), l.Nodup → (∀ z, z ∈ l → z < u) → (∀ z, z ∈ l → f z = a z) → (∀ z, z < u → z ∉ l → f z = -2) → cnt f x u = ctL a x l
  | 0, l, _, h, _, _ => by
    cases l with
    | nil => rfl
    | cons z r => exact absurd (h z List.mem_cons_self) (Nat.not_lt_zero _)
  | u + 1, l, hn, h, h1, h2 => by
    rw [cnt_s]
    by_cases c : u ∈ l
    · obtain ⟨A, B, e1, e2, e3, e4⟩ := rmv_at hn c
      have ih := cnt_ctL hx u (rmv u l) (rmv_nd hn) (fun z hz => by
        obtain ⟨q1, q2⟩ := rmv_mem.mp hz
        have := h z q1; omega) (fun z hz => h1 z (rmv_mem.mp hz).1) (fun z hz hq => h2 z (by omega) (fun q => hq (rmv_mem.mpr ⟨q, by omega⟩)))
      rw [ih, e4, ctL_app, e1, ctL_app, ctL_c, h1 u c]; omega
    · have ih := cnt_ctL hx u l hn (fun z hz => by
        have := h z hz
        have : z ≠ u := fun e => c (by rw [← e]; exact hz)
        omega) h1 (fun z hz hq => h2 z (by omega) hq)
      rw [ih, h2 u (by omega) c, if_neg (fun q => hx q.symm)]; rfl
theorem cR_cnt {s : St} {R : Rs} (hR : rOk R) (h : cR s R) {x : Int32} (hx : x ≠ -2) : cnt (s.1 55) x R.1 = ctL R.2.2.1 x R.2.1 := by
  have h36 := hR.1
  exact cnt_ctL hx R.1 R.2.1 hR.2.1 hR.2.2.1 (fun z hz => (h.2.2 z hz).1) (fun z hz hq => h.2.1 z (by omega) hq)
theorem cR_fnd {s : St} {R : Rs} (hR : rOk R) (h : cR s R) {x : Int32} (hx : x ≠ -2) {k : Nat} (hk : k < 2 ^ 31) : fnd (s.1 55) (s.1 56) x (nI k) R.1 0 = kdL R.2.2.1 x R.2.1 k := by
  have h36 := hR.1
  cases hf : fnd (s.1 55) (s.1 56) x (nI k) R.1 0 with
  | some n =>
    obtain ⟨-, f2, f3, f4⟩ := fnd_some hf
    have hn : n ∈ R.2.1 := Classical.byContradiction fun q => by
      rw [h.2.1 n (by omega) q] at f3; exact hx f3.symm
    obtain ⟨e1, e2, -, -⟩ := h.2.2 n hn
    have ax : R.2.2.1 n = x := e1.symm.trans f3
    rw [e2, ax] at f4
    have hb := pl_36 hR x n
    have hpl : plL R.2.2.1 x R.2.1 n = k := (nI_eq (by omega) hk).mp f4
    cases hd : kdL R.2.2.1 x R.2.1 k with
    | none =>
      have := kdL_none.mp hd
      have := plL_lt hn ax
      omega
    | some z =>
      obtain ⟨d1, d2, d3⟩ := kdL_some hR.2.1 hd
      rw [plL_inj hn d1 ax d2 (by omega)]
  | none =>
    cases hd : kdL R.2.2.1 x R.2.1 k with
    | none => rfl
    | some z =>
      obtain ⟨d1, d2, d3⟩ := kdL_some hR.2.1 hd
      obtain ⟨e1, e2, -, -⟩ := h.2.2 z d1
      have := hR.2.2.1 z d1
      exact absurd ⟨e1.trans d2, by rw [e2, d2, d3]⟩ (fnd_none hf z (Nat.zero_le _) (by omega))
/-- z of the result and y of the tree are alike -/
def eqN (R : Rs) (t : Tr) : Nat → Nat → Nat → Bool
  | 0, _, _ => false
  | f + 1, z, y => decide (R.2.2.2.1 z = t.2.2.1 y) && decide (R.2.2.2.2 z = t.2.2.2 y) && decide (ctL R.2.2.1 (nI z) R.2.1 = kc t y) && allF (fun i => kB (eqN R t f) (kdL R.2.2.1 (nI z) R.2.1 i) (kd t y i)) (ctL R.2.2.1 (nI z) R.2.1) 0
theorem eqN_s (R : Rs) (t : Tr) (f z y : Nat) : eqN R t (f + 1) z y = (decide (R.2.2.2.1 z = t.2.2.1 y) && decide (R.2.2.2.2 z = t.2.2.2 y) && decide (ctL R.2.2.1 (nI z) R.2.1 = kc t y) && allF (fun i => kB (eqN R t f) (kdL R.2.2.1 (nI z) R.2.1 i) (kd t y i)) (ctL R.2.2.1 (nI z) R.2.1) 0) := rfl
theorem kdL_ex {R : Rs} {x : Int32} {k : Nat} (hR : rOk R) (h : k < ctL R.2.2.1 x R.2.1) : ∃ z, kdL R.2.2.1 x R.2.1 k = some z ∧ z ∈ R.2.1 := by
  cases hd : kdL R.2.2.1 x R.2.1 k with
  | none => have := kdL_none.mp hd; omega
  | some z => exact ⟨z, rfl, (kdL_some hR.2.1 hd).1⟩
theorem eqN_fuel {R : Rs} {t : Tr} (hR : rOk R) (hw : tW t) : ∀ (f g z y : Nat), y < t.1 → t.1 - y ≤ f → t.1 - y ≤ g → eqN R t f z y = eqN R t g z y
  | 0, g, z, y, hy, h1, h2 => by omega
  | f + 1, 0, z, y, hy, h1, h2 => by omega
  | f + 1, g + 1, z, y, hy, h1, h2 => by
    have h12 := hw.1
    rw [eqN_s, eqN_s]
    by_cases hk : ctL R.2.2.1 (nI z) R.2.1 = kc t y
    · congr 1
      refine allF_congr (fun k k1 k2 => ?_)
      obtain ⟨b, eb, b1, b2⟩ := kd_lt hw (x := y) (by omega) (show k < kc t y by omega)
      obtain ⟨a, ea, a1⟩ := kdL_ex hR (show k < ctL R.2.2.1 (nI z) R.2.1 by omega)
      rw [ea, eb]
      exact eqN_fuel hR hw f g a b b1 (by omega) (by omega)
    · rw [decide_eq_false hk, Bool.and_false, Bool.false_and, Bool.false_and]
theorem alkG_res {s : St} {q : Nat} {R : Rs} {t : Tr} (hR : rOk R) (hc : cR s R) (hc' : cT s q t) (hw : tW t) : ∀ (f z y : Nat), z ∈ R.2.1 → y < t.1 → alkG (foS s 54 R.1) (foS s q t.1) f (nI z) (nI y) = eqN R t f z y
  | 0, z, y, hz, hy => rfl
  | f + 1, z, y, hz, hy => by
    have h12 := hw.1
    have h36 := hR.1
    have hzu := hR.2.2.1 z hz
    have b1 : foB (foS s 54 R.1) (nI z) = true := by
      unfold foB foS
      exact decide_eq_true ⟨z, hzu, rfl, fun q => (cR_th hR hc (by omega)).mp q hz⟩
    have b2 : foB (foS s q t.1) (nI y) = true := by
      unfold foB foS
      exact decide_eq_true ⟨y, hy, rfl, by show ¬ s.1 (q + 1) y = -2; rw [(hc'.2.1 y hy).1]; exact tW_ne2 hw hy⟩
    have e1 : (nI z).toNatClampNeg = z := nI_clamp (by omega)
    have e2 : (nI y).toNatClampNeg = y := nI_clamp (by omega)
    have hx2 : nI z ≠ -2 := nI_m2 z (by omega)
    have c1 : cnt (s.1 (54 + 1)) (nI z) R.1 = ctL R.2.2.1 (nI z) R.2.1 := cR_cnt hR hc hx2
    have c2 : cnt (s.1 (q + 1)) (nI y) t.1 = kc t y := cnt_congr _ _ (fun j hj => (hc'.2.1 j hj).1)
    have d2 : ∀ i, fnd (s.1 (q + 1)) (s.1 (q + 2)) (nI y) (nI i) t.1 0 = kd t y i := fun i => fnd_congr (fun j _ hj => ⟨(hc'.2.1 j (by omega)).1, (hc'.2.1 j (by omega)).2.1⟩)
    have t1 : s.1 (54 + 3) z = R.2.2.2.1 z := (hc.2.2 z hz).2.2.1
    have t2 : s.1 (54 + 4) z = R.2.2.2.2 z := (hc.2.2 z hz).2.2.2
    rw [eqN_s, alkG, b1, b2]
    simp only [foS, e1, e2, c1, c2, d2, t1, t2, (hc'.2.1 y hy).2.2.1, (hc'.2.1 y hy).2.2.2, Bool.true_and]
    by_cases hk : ctL R.2.2.1 (nI z) R.2.1 = kc t y
    · congr 1
      refine allF_congr (fun k k1 k2 => ?_)
      have hb := Nat.le_trans (ctL_le R.2.2.1 (nI z) R.2.1) (rOk_len hR)
      obtain ⟨b, eb, b1, b2⟩ := kd_lt hw (x := y) (by omega) (show k < kc t y by omega)
      obtain ⟨a, ea, a1⟩ := kdL_ex hR (show k < ctL R.2.2.1 (nI z) R.2.1 by omega)
      have d1 : fnd (s.1 (54 + 1)) (s.1 (54 + 2)) (nI z) (nI k) R.1 0 = kdL R.2.2.1 (nI z) R.2.1 k := cR_fnd hR hc hx2 (by omega)
      rw [d1, ea, eb]
      exact alkG_res hR hc hc' hw f a b a1 b1
    · rw [decide_eq_false hk, Bool.and_false, Bool.false_and, Bool.false_and]
/-- equal: one root, alike to the tree -/
def eqA (R : Rs) (t : Tr) : Bool := decide (ctL R.2.2.1 (-1) R.2.1 = 1) && decide (0 < t.1) && kB (eqN R t 13) (kdL R.2.2.1 (-1) R.2.1 0) (some 0)
section
variable {L : Nat} {xs : Nat → Int32} {d : Nat} {s : St}
theorem c_equalT {R : Rs} {t : Tr} {j : Nat} {Q : Option Value → am_S → Prop} (h7 : s.2.1 0 7 = 1) (hR : rOk R) (h : cR s R) (hj : j < 3) (hc : cT s (2 + 5 * j) t) (hw : tW t) : am_Call L xs (d + 43) 82 [.ref 0, .int (nI j)] (mk s) Q = Q (some (.int (bI (eqA R t)))) (mk s) := by
  have h36 := hR.1
  have h12 := hw.1
  have n1 : ¬ (1 : Int32) = 0 := by decide
  have hl := rOk_len hR
  have hcl := ctL_le R.2.2.1 (-1) R.2.1
  have cc : ∀ Q : Option Value → am_S → Prop, am_Call L xs (d + 42) 10 [.ref 54, .int (-1)] (mk s) Q = Q (some (.int (nI (ctL R.2.2.1 (-1) R.2.1)))) (mk s) := fun Q => by
    rw [c_childCount isF_54 (by decide) h.1 h36]
    show Q (some (.int (nI (cnt (s.1 55) (-1) R.1)))) (mk s) = _
    rw [cR_cnt hR h (by decide)]
  unfold eqA
  by_cases c1 : ctL R.2.2.1 (-1) R.2.1 = 1
  · have ca : ∀ Q : Option Value → am_S → Prop, am_Call L xs (d + 42) 11 [.ref 54, .int (-1), .int 0] (mk s) Q = Q (some (.int (oI (kdL R.2.2.1 (-1) R.2.1 0)))) (mk s) := fun Q => by
      have e := cR_fnd hR h (x := -1) (by decide) (k := 0) (by decide)
      rw [c_childAt isF_54 (by decide) h.1 h36]
      show Q (some (.int (oI (fnd (s.1 55) (s.1 56) (-1) (nI 0) R.1 0)))) (mk s) = _
      rw [e]
    obtain ⟨z, ez, hz⟩ := kdL_ex hR (show 0 < ctL R.2.2.1 (-1) R.2.1 by omega)
    rw [c1] at cc
    have e11 : nI 1 = 1 := rfl
    rw [e11] at cc
    rw [ez, oI_some] at ca
    have st : ∀ Q : Option Value → am_S → Prop, am_Call L xs (d + 42) 20 [.ref 54, .int (nI z), .ref (2 + 5 * j), .int 0, .int 0] (mk s) Q = Q (some (.int (bI (alkG (foS s 54 R.1) (foS s (2 + 5 * j) t.1) 41 (nI z) 0)))) (mk s) := fun Q => c_sameTwig isF_54 (by decide) h.1 h36 (isF_t hj) (by decide) hc.1 h12 41 0 d (nI z) 0 Q rfl
    have hv : bI (alkG (foS s 54 R.1) (foS s (2 + 5 * j) t.1) 41 (nI z) 0) = bI (decide (ctL R.2.2.1 (-1) R.2.1 = 1) && decide (0 < t.1) && kB (eqN R t 13) (kdL R.2.2.1 (-1) R.2.1 0) (some 0)) := by
      congr 1
      rw [decide_eq_true c1, ez, kB_ss, Bool.true_and]
      by_cases ht : 0 < t.1
      · rw [decide_eq_true ht, Bool.true_and, eqN_fuel hR hw 13 41 z 0 ht (by omega) (by omega)]
        exact alkG_res hR h hc hw 41 z 0 hz ht
      · rw [decide_eq_false ht, Bool.false_and]
        have b2 : foB (foS s (2 + 5 * j) t.1) 0 = false := by
          unfold foB foS
          refine decide_eq_false ?_
          rintro ⟨i, hi, -⟩
          exact ht (by have hi : i < t.1 := hi; omega)
        rw [alkG, b2, Bool.and_false, Bool.false_and, Bool.false_and, Bool.false_and, Bool.false_and]
    rw [hv] at st
    rcases bI_01 (decide (ctL R.2.2.1 (-1) R.2.1 = 1) && decide (0 < t.1) && kB (eqN R t 13) (kdL R.2.2.1 (-1) R.2.1 0) (some 0)) with b | b
    · rw [b] at st ⊢
      simp only [e82, r82_0, r82_1, r82_4, r82_7, r82_8, r82_11, r82_14, r82_15, r82_18, r82_19, r82_22, r82_23, r82_26, r82_27, r82_30, r82_31, r82_34, r82_35, r82_36, r82_39, r82_40, r82_43, r82_44, r82_45, r82_46, r82_47, r82_50, r82_57, r82_58, am_li0, am_liS, am_laR0, am_tL, g0_0, g0_5, g0_7, h7, c_isTree1 hj, t_tree hj, f_oc isF_54, cc, ca, st, n1, not_true, if_true, if_false, am_okI, am_okR, List.length_cons, List.length_nil, Nat.reduceAdd, Nat.zero_le, Nat.reduceLeDiff, and_true, true_and, true_or, eq_self]
    · rw [b] at st ⊢
      simp only [e82, r82_0, r82_1, r82_4, r82_7, r82_8, r82_11, r82_14, r82_15, r82_18, r82_19, r82_22, r82_23, r82_26, r82_27, r82_30, r82_31, r82_34, r82_35, r82_36, r82_39, r82_40, r82_43, r82_44, r82_45, r82_46, r82_47, r82_50, r82_53, r82_54, r82_58, am_li0, am_liS, am_laR0, am_tL, g0_0, g0_5, g0_7, h7, c_isTree1 hj, t_tree hj, f_oc isF_54, cc, ca, st, n1, not_true, if_true, if_false, am_okI, am_okR, List.length_cons, List.length_nil, Nat.reduceAdd, Nat.zero_le, Nat.reduceLeDiff, and_true, true_and, or_true, eq_self]
  · have c2 : ¬ nI (ctL R.2.2.1 (-1) R.2.1) = 1 := fun q => c1 ((nI_eq (b := 1) (by omega) (by decide)).mp q)
    rw [decide_eq_false c1, Bool.false_and, Bool.false_and]
    have b0 : bI false = 0 := rfl
    rw [b0]
    simp only [e82, r82_0, r82_1, r82_4, r82_7, r82_8, r82_11, r82_14, r82_15, r82_18, r82_19, r82_22, r82_23, r82_57, r82_58, am_li0, am_liS, am_laR0, am_tL, g0_5, g0_7, h7, c_isTree1 hj, f_oc isF_54, cc, c2, n1, not_false_eq_true, if_true, if_false, am_okI, am_okR, List.length_cons, List.length_nil, Nat.reduceAdd, Nat.zero_le, Nat.reduceLeDiff, and_true, true_and, true_or, eq_self]
theorem c_equalF {a : Int32} {Q : Option Value → am_S → Prop} (h7 : s.2.1 0 7 = 1) (h : a < 0 ∨ 3 ≤ a) : am_Call L xs (d + 1) 82 [.ref 0, .int a] (mk s) Q = Q (some (.int 0)) (mk s) := by
  have n1 : ¬ (1 : Int32) = 0 := by decide
  simp only [e82, r82_0, r82_1, r82_4, r82_7, r82_8, r82_11, r82_57, r82_58, am_li0, am_liS, am_laR0, am_tL, g0_7, h7, c_isTree0 h, n1, if_true, if_false, am_okI, List.length_nil, Nat.zero_le, and_true, true_and, true_or, eq_self]
/-! the reference: the k-th with a parent -/
theorem m_tw_loop {R : Rs} {x : Int32} {k : Nat} {Q : Option Value → am_S → Prop} (hR : rOk R) (h : mR s R) (hk : k < 2 ^ 31) : ∀ (r : List Nat) (i c : Nat), i + r.length = R.2.1.length → (∀ m, m < r.length → nthL R.2.1 (i + m) = nthL r m) → (∀ z, z ∈ r → z ∈ R.2.1) → c < 2 ^ 31 →
    am_Rn L xs d 131 5 [.ref 121, .int x, .int (nI k), .int (nI c), .int (nI i)] [] (mk s) Q = Q (some (.int (oI (kdL R.2.2.1 x r c)))) (mk s)
  | [], i, c, hi, hn, hm, hc => by
    have hl := rOk_len hR
    have e : i = R.2.1.length := hi
    have h1 : nI R.2.1.length ≤ nI i := by rw [e]; exact nI_le (Nat.le_refl _) (by omega)
    rw [r131_5]
    simp only [r131_7, r131_8, r131_11, r131_51, r131_52, am_li0, am_liS, am_laR0, g121_35, h.2.1, h1, if_true]
    rfl
  | z :: r, i, c, hi, hn, hm, hc => by
    have hl := rOk_len hR
    have h36 := hR.1
    rw [List.length_cons] at hi
    have h1 : ¬ nI R.2.1.length ≤ nI i := nI_ge (by omega) (by omega)
    have k1 : am_in (nI i) 36 = true := in_of (by omega) (by decide)
    have k2 : (nI i).toNatClampNeg = i := nI_clamp (by omega)
    have hz : nthL R.2.1 i = z := hn 0 (by rw [List.length_cons]; omega)
    have e1 : s.1 151 i = nI z := by rw [h.2.2.1 i (by omega), hz]
    have hzl := hm z List.mem_cons_self
    have hz36 := hR.2.2.1 z hzl
    have z1 : am_in (nI z) 36 = true := in_of (by omega) (by decide)
    have z2 : (nI z).toNatClampNeg = z := nI_clamp (by omega)
    have g1 := (h.2.2.2 z hzl).1
    have ih := fun c hc => m_tw_loop (x := x) (k := k) (Q := Q) hR h hk r (i + 1) c (by omega) (fun m hm => by
      have := hn (m + 1) (by rw [List.length_cons]; omega)
      rw [nthL_s] at this
      rw [← this]
      congr 1; omega) (fun z hz => hm z (List.mem_cons_of_mem _ hz)) hc
    rw [kdL_c, r131_5]
    by_cases e : R.2.2.1 z = x
    · rw [if_pos e]
      rw [e] at g1
      match c, hc with
      | 0, hc =>
        have c0 : ¬ ¬ nI 0 = 0 := by decide
        rw [if_pos rfl, oI_some]
        simp only [r131_7, r131_8, r131_11, r131_14, r131_15, r131_18, r131_19, r131_22, r131_24, r131_25, r131_26, r131_27, r131_30, r131_31, r131_34, r131_35, r131_38, r131_40, r131_41, am_li0, am_liS, am_laR0, g121_31, g121_34, g121_35, a148, a151, h.2.1, h1, k1, k2, e1, z1, z2, g1, c0, not_true, if_false, true_and]
      | c + 1, hc =>
        have c0 : ¬ nI (c + 1) = 0 := nI_ne0 (by omega) hc
        have e9 : nI (c + 1) + -1 = nI c := pk_m1 c
        rw [if_neg (by omega), show c + 1 - 1 = c by omega, ← ih c (by omega)]
        simp only [r131_7, r131_8, r131_11, r131_14, r131_15, r131_18, r131_19, r131_22, r131_24, r131_25, r131_26, r131_27, r131_30, r131_31, r131_42, r131_45, r131_48, am_li0, am_liS, am_laR0, g121_31, g121_34, g121_35, a148, a151, h.2.1, h1, k1, k2, e1, z1, z2, g1, c0, e9, nI_1, not_true, not_false_eq_true, if_true, if_false, List.length_cons, List.length_nil, List.set_cons_succ, List.set_cons_zero, Nat.reduceAdd, Nat.reduceLT, true_and]
    · rw [if_neg e, ← ih c hc]
      simp only [r131_7, r131_8, r131_11, r131_14, r131_15, r131_18, r131_19, r131_22, r131_24, r131_25, r131_26, r131_27, r131_45, r131_48, am_li0, am_liS, am_laR0, g121_31, g121_34, g121_35, a148, a151, h.2.1, h1, k1, k2, e1, z1, z2, g1, e, nI_1, not_false_eq_true, if_true, if_false, List.length_cons, List.length_nil, List.set_cons_succ, List.set_cons_zero, Nat.reduceAdd, Nat.reduceLT, true_and]
theorem m_twig {R : Rs} {x : Int32} {k : Nat} {Q : Option Value → am_S → Prop} (hR : rOk R) (h : mR s R) (hk : k < 2 ^ 31) : am_Call L xs d 131 [.ref 121, .int x, .int (nI k)] (mk s) Q = Q (some (.int (oI (kdL R.2.2.1 x R.2.1 k)))) (mk s) := by
  have r := m_tw_loop (L := L) (xs := xs) (d := d) (x := x) (Q := Q) hR h hk R.2.1 0 k (by omega) (fun m _ => by rw [Nat.zero_add]) (fun _ hz => hz) hk
  have r : am_Rn L xs d 131 5 [.ref 121, .int x, .int (nI k), .int (nI k), .int 0] [] (mk s) Q = _ := r
  rw [← r]
  simp only [e131, r131_0, r131_1, r131_2, r131_3, am_li0, am_liS, List.length_cons, List.length_nil, List.set_cons_succ, List.set_cons_zero, Nat.reduceAdd, Nat.reduceLT, true_and]
end
