/-! The reference's result: the line -/
/-- the reference holds the result, its line apart from who is there -/
def mR (s : St) (R : Rs) : Prop := s.2.1 121 29 = nI R.1 ∧ s.2.1 121 35 = nI R.2.1.length ∧ (∀ k, k < R.2.1.length → s.1 151 k = nI (nthL R.2.1 k)) ∧ ∀ n, n ∈ R.2.1 → s.1 148 n = R.2.2.1 n ∧ s.1 149 n = R.2.2.2.1 n ∧ s.1 150 n = R.2.2.2.2 n
def thA (s : St) (l : List Nat) : Prop := ∀ n, n < 36 → s.1 147 n = bI (decide (n ∈ l))
/-- the k-th is m -/
def eqP (m : Nat) (l : List Nat) (k : Nat) : Bool := decide (nthL l k = m)
theorem nthL_app1 {A B : List Nat} {k : Nat} (h : k < A.length) : nthL (A ++ B) k = nthL A k := by
  unfold nthL
  rw [List.getElem?_append_left h]
theorem nthL_app2 (A B : List Nat) (k : Nat) : nthL (A ++ B) (A.length + k) = nthL B k := by
  unfold nthL
  rw [List.getElem?_append_right (by omega), show A.length + k - A.length = k by omega]
/-- behind m, where it is but once -/
theorem lpF_eq {m : Nat} {A B : List Nat} (hB : m ∉ B) : lpF (eqP m (A ++ m :: B)) (A ++ m :: B).length = A.length + 1 := by
  have e1 : (A ++ m :: B).length = A.length + 1 + B.length := by rw [List.length_append, List.length_cons]; omega
  rw [e1]
  refine lpF_at ?_ _ fun k h1 h2 => ?_
  · have : nthL (A ++ m :: B) A.length = m := nthL_app2 A (m :: B) 0
    exact decide_eq_true this
  · obtain ⟨i, hi⟩ : ∃ i, k = A.length + (i + 1) := ⟨k - A.length - 1, by omega⟩
    have : nthL (A ++ m :: B) k = nthL B i := by rw [hi]; exact nthL_app2 A (m :: B) (i + 1)
    refine decide_eq_false fun q => hB ?_
    rw [this] at q
    rw [← q]
    exact nthL_mem (by omega)
theorem lpF_no {P : Nat → Bool} : ∀ n, (∀ k, k < n → P k = false) → lpF P n = 0
  | 0, _ => rfl
  | n + 1, h => by
    rw [lpF_s, if_neg (by rw [h n (by omega)]; decide)]
    exact lpF_no n fun k hk => h k (by omega)
section
variable {L : Nat} {xs : Nat → Int32} {d : Nat}
theorem w151' {s : St} {i x : Int32} {f : am_S → Prop} : am_wi 0 (mk s) 151 i x f = (am_in i 36 = true ∧ f (mk (w1 s 151 i.toNatClampNeg x))) := w151
theorem w148' {s : St} {i x : Int32} {f : am_S → Prop} : am_wi 0 (mk s) 148 i x f = (am_in i 36 = true ∧ f (mk (w1 s 148 i.toNatClampNeg x))) := w148
theorem w149' {s : St} {i x : Int32} {f : am_S → Prop} : am_wi 0 (mk s) 149 i x f = (am_in i 36 = true ∧ f (mk (w1 s 149 i.toNatClampNeg x))) := w149
theorem w150' {s : St} {i x : Int32} {f : am_S → Prop} : am_wi 0 (mk s) 150 i x f = (am_in i 36 = true ∧ f (mk (w1 s 150 i.toNatClampNeg x))) := w150
theorem w147' {s : St} {i x : Int32} {f : am_S → Prop} : am_wi 1 (mk s) 147 i x f = (am_in i 36 = true ∧ f (mk (w1 s 147 i.toNatClampNeg x))) := w147
theorem v121_29' {s : St} {y o : Nat} {x : Int32} {f : am_S → Prop} : am_wf y o (mk s) 121 6 29 (.int x) f = f (mk (w2 s 121 29 x)) := v121_29
theorem v121_35' {s : St} {y o : Nat} {x : Int32} {f : am_S → Prop} : am_wf y o (mk s) 121 6 35 (.int x) f = f (mk (w2 s 121 35 x)) := v121_35
/-- where it goes, found -/
theorem m_in_pl {s : St} {m : Nat} {l : List Nat} {v1 v2 : Value} (hm36 : m < 36) (hn : l.length ≤ 36) (h35 : s.2.1 121 35 = nI l.length) (hl : ∀ k, k < l.length → s.1 151 k = nI (nthL l k)) (h31 : ∀ z, z ∈ l → z < 2 ^ 31) : ∀ (mm k : Nat), l.length - k = mm → k ≤ l.length → ∀ Q : Option Value → am_S → Prop,
    am_Rn L xs d 116 6 [.ref 121, v1, v2, .int (nI m), .int (nI (lpF (eqP m l) k)), .int (nI k)] [] (mk s) Q = am_Rn L xs d 116 47 [.ref 121, v1, v2, .int (nI m), .int (nI (lpF (eqP m l) l.length)), .int (nI l.length)] [] (mk s) Q
  | 0, k, hmm, hk, Q => by
    have e : k = l.length := by omega
    subst e
    have h1 : nI l.length ≤ nI l.length := nI_le (Nat.le_refl _) (by omega)
    rw [r116_6]
    simp only [r116_8, r116_9, r116_12, am_li0, am_liS, am_laR0, g121_35, h35, h1, if_true]
  | mm + 1, k, hmm, hk, Q => by
    have h1 : ¬ nI l.length ≤ nI k := nI_ge (by omega) (by omega)
    have m0 : ¬ nI m < 0 := nI_pos (by omega)
    have k1 : am_in (nI k) 36 = true := in_of (by omega) (by decide)
    have k2 : (nI k).toNatClampNeg = k := nI_clamp (by omega)
    have e1 := hl k (by omega)
    have e2 := h31 _ (nthL_mem (show k < l.length by omega))
    rw [← m_in_pl (v1 := v1) (v2 := v2) hm36 hn h35 hl h31 mm (k + 1) (by omega) (by omega) Q, lpF_s, r116_6]
    by_cases c : nthL l k = m
    · have c2 : eqP m l k = true := decide_eq_true c
      rw [c] at e1
      rw [if_pos c2]
      simp only [r116_8, r116_9, r116_12, r116_15, r116_16, r116_19, r116_20, r116_23, r116_25, r116_26, r116_27, r116_30, r116_32, r116_33, r116_34, r116_39, r116_41, r116_44, am_li0, am_liS, am_laR0, g121_34, g121_35, a151, h35, h1, m0, k1, k2, e1, nI_1, not_true, if_false, List.length_cons, List.length_nil, List.set_cons_succ, List.set_cons_zero, Nat.reduceAdd, Nat.reduceLT, Nat.zero_le, Nat.reduceLeDiff, and_true, true_and]
    · have c2 : ¬ eqP m l k = true := fun q => c (of_decide_eq_true q)
      have c3 : ¬ nI (nthL l k) = nI m := fun q => c ((nI_eq e2 (by omega)).mp q)
      rw [if_neg c2]
      simp only [r116_8, r116_9, r116_12, r116_15, r116_16, r116_19, r116_20, r116_23, r116_25, r116_26, r116_27, r116_37, r116_39, r116_41, r116_44, am_li0, am_liS, am_laR0, g121_34, g121_35, a151, h35, h1, m0, k1, k2, e1, c3, nI_1, not_false_eq_true, if_true, if_false, List.length_cons, List.length_nil, List.set_cons_succ, List.set_cons_zero, Nat.reduceAdd, Nat.reduceLT, Nat.zero_le, Nat.reduceLeDiff, and_true, true_and]
/-- before all: b is no node -/
theorem m_in_pl0 {s : St} {b : Int32} {n : Nat} {v1 v2 : Value} (hb : b < 0) (hn : n ≤ 36) (h35 : s.2.1 121 35 = nI n) : ∀ (mm k : Nat), n - k = mm → k ≤ n → ∀ Q : Option Value → am_S → Prop,
    am_Rn L xs d 116 6 [.ref 121, v1, v2, .int b, .int 0, .int (nI k)] [] (mk s) Q = am_Rn L xs d 116 47 [.ref 121, v1, v2, .int b, .int 0, .int (nI n)] [] (mk s) Q
  | 0, k, hmm, hk, Q => by
    have e : k = n := by omega
    subst e
    have h1 : nI k ≤ nI k := nI_le (Nat.le_refl _) (by omega)
    rw [r116_6]
    simp only [r116_8, r116_9, r116_12, am_li0, am_liS, am_laR0, g121_35, h35, h1, if_true]
  | mm + 1, k, hmm, hk, Q => by
    have h1 : ¬ nI n ≤ nI k := nI_ge (by omega) (by omega)
    rw [← m_in_pl0 (v1 := v1) (v2 := v2) hb hn h35 mm (k + 1) (by omega) (by omega) Q, r116_6]
    simp only [r116_8, r116_9, r116_12, r116_15, r116_16, r116_37, r116_39, r116_41, r116_44, am_li0, am_liS, am_laR0, g121_35, h35, h1, hb, nI_1, if_true, if_false, List.length_cons, List.length_nil, List.set_cons_succ, List.set_cons_zero, Nat.reduceAdd, Nat.reduceLT, Nat.zero_le, Nat.reduceLeDiff, and_true, true_and]
theorem m_in_sh {n pl : Nat} {l : List Nat} {v1 v2 v3 : Value} (hn : n < 36) : ∀ (m : Nat) (s : St), pl + m ≤ n → (∀ i, i < pl + m → s.1 151 i = nI (nthL l i)) → (∀ i, pl + m < i → i ≤ n → s.1 151 i = nI (nthL l (i - 1))) →
    ∃ s' : St, (∀ i, i < pl → s'.1 151 i = nI (nthL l i)) ∧ (∀ i, pl < i → i ≤ n → s'.1 151 i = nI (nthL l (i - 1))) ∧ (∀ q, q ≠ 151 → s'.1 q = s.1 q) ∧ s'.2 = s.2 ∧ ∀ Q : Option Value → am_S → Prop, am_Rn L xs d 116 53 [.ref 121, v1, v2, v3, .int (nI pl), .int (nI (pl + m))] [] (mk s) Q = am_Rn L xs d 116 82 [.ref 121, v1, v2, v3, .int (nI pl), .int (nI pl)] [] (mk s') Q
  | 0, s, hm, h1, h2 => by
    refine ⟨s, h1, h2, fun _ _ => rfl, rfl, fun Q => ?_⟩
    have e1 : nI pl ≤ nI pl := nI_le (Nat.le_refl _) (by omega)
    rw [Nat.add_zero, r116_53]
    simp only [r116_55, r116_57, am_li0, am_liS, e1, if_true]
  | m + 1, s, hm, h1, h2 => by
    have e1 : ¬ nI (pl + (m + 1)) ≤ nI pl := nI_ge (by omega) (by omega)
    have k1 : am_in (nI (pl + (m + 1))) 36 = true := in_of (by omega) (by decide)
    have k2 : (nI (pl + (m + 1))).toNatClampNeg = pl + (m + 1) := nI_clamp (by omega)
    have k3 : am_in (nI (pl + m)) 36 = true := in_of (by omega) (by decide)
    have k4 : (nI (pl + m)).toNatClampNeg = pl + m := nI_clamp (by omega)
    have ea : nI (pl + (m + 1)) - 1 = nI (pl + m) := nI_pred (pl + m)
    have eb : nI (pl + (m + 1)) + -1 = nI (pl + m) := pk_m1 (pl + m)
    have er := h1 (pl + m) (by omega)
    obtain ⟨s', a1, a2, a3, a4, a5⟩ := m_in_sh (pl := pl) (l := l) (v1 := v1) (v2 := v2) (v3 := v3) hn m (w1 s 151 (pl + (m + 1)) (nI (nthL l (pl + m)))) (by omega) (fun i hi => by rw [w1_n _ _ _ (by omega)]; exact h1 i (by omega)) (fun i i1 i2 => by
      by_cases e : i = pl + (m + 1)
      · rw [e, w1_a]; rfl
      · rw [w1_n _ _ _ e]; exact h2 i (by omega) i2)
    refine ⟨s', a1, a2, fun q hq => (a3 q hq).trans (w1_o _ _ _ hq), a4, fun Q => ?_⟩
    rw [← a5 Q, r116_53]
    simp only [r116_55, r116_57, r116_60, r116_61, r116_64, r116_66, r116_67, r116_70, r116_72, r116_73, r116_74, r116_75, r116_76, r116_79, am_li0, am_liS, am_laR0, g121_34, a151, w151', e1, k1, k2, k3, k4, ea, eb, er, if_false, List.length_cons, List.length_nil, List.set_cons_succ, List.set_cons_zero, Nat.reduceAdd, Nat.reduceLT, Nat.zero_le, Nat.reduceLeDiff, and_true, true_and]
/-- what into and out may change -/
def frL (s s' : St) : Prop := (∀ q, q ≠ 148 → q ≠ 151 → s'.1 q = s.1 q) ∧ (∀ q k, ¬ (q = 121 ∧ k = 35) → s'.2.1 q k = s.2.1 q k) ∧ s'.2.2 = s.2.2
theorem frL_t {s s1 s2 : St} (h : frL s s1) (h' : frL s1 s2) : frL s s2 := ⟨fun q a b => (h'.1 q a b).trans (h.1 q a b), fun q k a => (h'.2.1 q k a).trans (h.2.1 q k a), h'.2.2.trans h.2.2⟩
/-- the place of the insertion in the line -/
theorem insB_at {l : List Nat} {b : Int32} {v : Nat} (hl : ∀ z, z ∈ l → z < 2 ^ 31) : ∃ A B, l = A ++ B ∧ insB l b v = A ++ v :: B ∧ ((hsB l b = false ∧ A = []) ∨ ∃ m A', b = nI m ∧ m ∈ l ∧ A = A' ++ [m]) := by
  rcases insB_cases (b := b) (v := v) hl with ⟨h0, e⟩ | ⟨m, A, B, h0, hbm, e1, hmA, e2⟩
  · exact ⟨[], l, rfl, e, Or.inl ⟨h0, rfl⟩⟩
  · exact ⟨A ++ [m], B, by rw [e1, List.append_assoc]; rfl, by rw [e2, List.append_assoc]; rfl, Or.inr ⟨m, A, hbm, by rw [e1]; exact List.mem_append_right _ List.mem_cons_self, rfl⟩⟩
theorem m_into {s : St} {R : Rs} {v : Nat} {p b : Int32} (hR : rOk R) (h : mR s R) (hv : v ∉ R.2.1) (hvu : v < 36) (hb : b < 0 ∨ ∃ m, b = nI m ∧ m < 36) (t1 : s.1 149 v = R.2.2.2.1 v) (t2 : s.1 150 v = R.2.2.2.2 v) :
    ∃ s' : St, mR s' (R.1, insB R.2.1 b v, upd R.2.2.1 v p, R.2.2.2) ∧ frL s s' ∧ ∀ Q : Option Value → am_S → Prop, am_Call L xs d 116 [.ref 121, .int (nI v), .int p, .int b] (mk s) Q = Q none (mk s') := by
  have h31 := rOk_lt hR
  have hlen := nd_len 36 (v :: R.2.1) (List.nodup_cons.mpr ⟨hv, hR.2.1⟩) (fun z hz => by
    rcases List.mem_cons.mp hz with e | e
    · rw [e]; exact hvu
    · have := hR.2.2.1 z e; have := hR.1; omega)
  rw [List.length_cons] at hlen
  obtain ⟨A, B, e1, e2, e3⟩ := insB_at (b := b) (v := v) h31
  -- the place
  have hpl : ∃ v4 : Value, ∀ Q : Option Value → am_S → Prop, am_Rn L xs d 116 6 [.ref 121, .int (nI v), .int p, .int b, .int 0, .int 0] [] (mk s) Q = am_Rn L xs d 116 47 [.ref 121, .int (nI v), .int p, .int b, .int (nI A.length), v4] [] (mk s) Q := by
    rcases hb with hb | ⟨m, rfl, hm⟩
    · have hA : A = [] := by
        rcases e3 with ⟨-, q⟩ | ⟨m, -, q1, q2, -⟩
        · exact q
        · rw [q1] at hb; exact absurd hb (nI_pos (h31 m q2))
      refine ⟨.int (nI R.2.1.length), fun Q => ?_⟩
      rw [hA]
      exact m_in_pl0 (n := R.2.1.length) hb (by omega) h.2.1 R.2.1.length 0 rfl (Nat.zero_le _) Q
    · refine ⟨.int (nI R.2.1.length), fun Q => ?_⟩
      have hx : lpF (eqP m R.2.1) R.2.1.length = A.length := by
        rcases e3 with ⟨q1, q2⟩ | ⟨m', A', q1, q2, q3⟩
        · rw [q2]
          refine lpF_no _ fun k hk => decide_eq_false fun q => ?_
          have : hsB R.2.1 (nI m) = true := hsB_iff.mpr ⟨m, by rw [← q]; exact nthL_mem hk, rfl⟩
          rw [this] at q1; cases q1
        · have em : m = m' := (nI_eq (by omega) (h31 m' q2)).mp q1
          subst em
          have e1' : R.2.1 = A' ++ m :: B := by rw [e1, q3, List.append_assoc]; rfl
          have hnd := hR.2.1
          rw [e1', List.nodup_append] at hnd
          rw [e1', lpF_eq (List.nodup_cons.mp hnd.2.1).1, q3, List.length_append]; rfl
      have r := m_in_pl (L := L) (xs := xs) (d := d) (s := s) (v1 := .int (nI v)) (v2 := .int p) hm (show R.2.1.length ≤ 36 by omega) h.2.1 h.2.2.1 h31 R.2.1.length 0 rfl (Nat.zero_le _) Q
      rw [hx] at r
      exact r
  obtain ⟨v4, hpl⟩ := hpl
  have hAl : A.length ≤ R.2.1.length := by rw [e1, List.length_append]; omega
  obtain ⟨dm, hdm⟩ : ∃ dm, A.length + dm = R.2.1.length := ⟨R.2.1.length - A.length, by omega⟩
  obtain ⟨s1, a1, a2, a3, a4, a5⟩ := m_in_sh (L := L) (xs := xs) (d := d) (pl := A.length) (l := R.2.1) (n := R.2.1.length) (v1 := .int (nI v)) (v2 := .int p) (v3 := .int b) (by omega) dm s (by omega) (fun i hi => h.2.2.1 i (by omega)) (fun i i1 i2 => by omega)
  rw [hdm] at a5
  generalize hs2 : w1 (w2 (w1 s1 151 A.length (nI v)) 121 35 (nI (R.2.1.length + 1))) 148 v p = s2
  have b1 : ∀ q, q ≠ 148 → q ≠ 151 → s2.1 q = s.1 q := fun q n1 n2 => by rw [← hs2, w1_o _ _ _ n1, w2_1, w1_o _ _ _ n2, a3 q n2]
  have b2 : s2.1 148 = upd (s.1 148) v p := by rw [← hs2, w1_q, w2_1, w1_o _ _ _ (by omega), a3 148 (by omega)]
  have b3 : s2.1 151 = upd (s1.1 151) A.length (nI v) := by rw [← hs2, w1_o _ _ _ (by omega), w2_1, w1_q]
  have b4 : s2.2.1 121 35 = nI (R.2.1.length + 1) := by rw [← hs2, w1_2, w2_a]
  have b5 : ∀ q k, ¬ (q = 121 ∧ k = 35) → s2.2.1 q k = s.2.1 q k := fun q k n1 => by rw [← hs2, w1_2, w2_o _ _ n1, w1_2, a4]
  have b6 : s2.2.2 = s.2.2 := by rw [← hs2, w1_2, w2_g, w1_2, a4]
  refine ⟨s2, ⟨by rw [b5 _ _ (by omega)]; exact h.1, by dsimp only; rw [insB_len h31]; exact b4, fun k hk => ?_, fun n hn => ?_⟩, ⟨b1, b5, b6⟩, fun Q => ?_⟩
  · have hk : k < (insB R.2.1 b v).length := hk
    rw [insB_len h31] at hk
    show s2.1 151 k = nI (nthL (insB R.2.1 b v) k)
    rw [b3, e2, nthL_in, ← e1]
    by_cases c1 : k < A.length
    · rw [if_pos c1, upd_n _ _ (by omega)]; exact a1 k c1
    · rw [if_neg c1]
      by_cases c2 : k = A.length
      · rw [if_pos c2, c2, upd_s]
      · rw [if_neg c2, upd_n _ _ c2]; exact a2 k (by omega) (by omega)
  · show s2.1 148 n = upd R.2.2.1 v p n ∧ s2.1 149 n = R.2.2.2.1 n ∧ s2.1 150 n = R.2.2.2.2 n
    rw [b2, b1 149 (by omega) (by omega), b1 150 (by omega) (by omega)]
    rcases (insB_mem h31).mp hn with e | e
    · subst e
      rw [upd_s, upd_s]; exact ⟨rfl, t1, t2⟩
    · have ne : n ≠ v := fun q => hv (by rw [← q]; exact e)
      rw [upd_n _ _ ne, upd_n _ _ ne]; exact h.2.2.2 n e
  · have p1 : am_in (nI A.length) 36 = true := in_of (by omega) (by decide)
    have p2 : (nI A.length).toNatClampNeg = A.length := nI_clamp (by omega)
    have p3 : am_in (nI v) 36 = true := in_of (by omega) (by decide)
    have p4 : (nI v).toNatClampNeg = v := nI_clamp (by omega)
    have c35 : s.2.1 121 35 = nI R.2.1.length := h.2.1
    have d35 : (w1 s1 151 A.length (nI v)).2.1 121 35 = nI R.2.1.length := by rw [w1_2, a4]; exact c35
    simp only [e116, r116_0, r116_1, r116_3, r116_4, am_li0, am_liS, am_laR0, List.length_cons, List.length_nil, List.set_cons_succ, List.set_cons_zero, Nat.reduceAdd, Nat.reduceLT, Nat.zero_le, Nat.reduceLeDiff, and_true, true_and]
    rw [hpl Q]
    simp only [r116_47, r116_48, r116_51, am_li0, am_liS, am_laR0, g121_35, c35, List.length_cons, List.length_nil, List.set_cons_succ, List.set_cons_zero, Nat.reduceAdd, Nat.reduceLT, Nat.zero_le, Nat.reduceLeDiff, and_true, true_and]
    rw [a5 Q]
    simp only [r116_82, r116_83, r116_86, r116_88, r116_89, r116_90, r116_91, r116_92, r116_95, r116_96, r116_97, r116_100, r116_101, r116_104, r116_105, r116_106, r116_107, am_li0, am_liS, am_laR0, g121_31, g121_34, g121_35, w148', w151', v121_35', p1, p2, p3, p4, d35, nI_1, hs2, am_okR, am_okI, List.length_cons, List.length_nil, List.set_cons_succ, List.set_cons_zero, Nat.reduceAdd, Nat.reduceLT, Nat.zero_le, Nat.reduceLeDiff, and_true, true_and]
end
