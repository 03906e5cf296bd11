/-! The reference: out, begin, what a step does -/
/-- the index of v -/
theorem rmv_at {v : Nat} : ∀ {l : List Nat}, l.Nodup → v ∈ l → ∃ A B, l = A ++ v :: B ∧ v ∉ A ∧ v ∉ B ∧ rmv v l = A ++ B
  | [], _, h => by cases h
  | z :: r, hn, h => by
    rw [List.nodup_cons] at hn
    by_cases e : z = v
    · refine ⟨[], r, by rw [e]; rfl, fun q => (by cases q), by rw [← e]; exact hn.1, ?_⟩
      unfold rmv
      rw [List.filter_cons, if_neg (by rw [e]; simp)]
      exact rmv_no (by rw [← e]; exact hn.1)
    · have hvr : v ∈ r := by
        rcases List.mem_cons.mp h with q | q
        · exact absurd q.symm e
        · exact q
      obtain ⟨A, B, e1, e2, e3, e4⟩ := rmv_at hn.2 hvr
      refine ⟨z :: A, B, by rw [e1]; rfl, fun q => ?_, e3, ?_⟩
      · rcases List.mem_cons.mp q with q | q
        · exact e q.symm
        · exact e2 q
      · unfold rmv at e4 ⊢
        rw [List.filter_cons, if_pos (decide_eq_true e), e4]; rfl
/-- the last k below n with P, or 0 -/
def laF (P : Nat → Bool) : Nat → Nat
  | 0 => 0
  | k + 1 => if P k = true then k else laF P k
theorem laF_s (P : Nat → Bool) (k : Nat) : laF P (k + 1) = if P k = true then k else laF P k := rfl
theorem laF_at {P : Nat → Bool} {a : Nat} (h : P a = true) : ∀ m, (∀ k, a < k → k < a + 1 + m → P k = false) → laF P (a + 1 + m) = a
  | 0, _ => by rw [Nat.add_zero, laF_s, if_pos h]
  | m + 1, hf => by
    rw [← Nat.add_assoc, laF_s, if_neg (by rw [hf (a + 1 + m) (by omega) (by omega)]; decide)]
    exact laF_at h m (fun k h1 h2 => hf k h1 (by omega))
theorem laF_eq {m : Nat} {A B : List Nat} (hB : m ∉ B) : laF (eqP m (A ++ m :: B)) (A ++ m :: B).length = A.length := by
  have e1 : (A ++ m :: B).length = A.length + 1 + B.length := by rw [List.length_append, List.length_cons]; omega
  rw [e1]
  refine laF_at ?_ _ fun k h1 h2 => ?_
  · have : nthL (A ++ m :: B) A.length = m := nthL_app2 A (m :: B) 0
    exact decide_eq_true this
  · obtain ⟨i, hi⟩ : ∃ i, k = A.length + (i + 1) := ⟨k - A.length - 1, by omega⟩
    have : nthL (A ++ m :: B) k = nthL B i := by rw [hi]; exact nthL_app2 A (m :: B) (i + 1)
    refine decide_eq_false fun q => hB ?_
    rw [this] at q
    rw [← q]
    exact nthL_mem (by omega)
section
variable {L : Nat} {xs : Nat → Int32} {d : Nat}
theorem m_out_at {s : St} {m : Nat} {l : List Nat} (hm36 : m < 36) (hn : l.length ≤ 36) (h35 : s.2.1 121 35 = nI l.length) (hl : ∀ k, k < l.length → s.1 151 k = nI (nthL l k)) (h31 : ∀ z, z ∈ l → z < 2 ^ 31) : ∀ (mm k : Nat), l.length - k = mm → k ≤ l.length → ∀ Q : Option Value → am_S → Prop,
    am_Rn L xs d 117 4 [.ref 121, .int (nI m), .int (nI (laF (eqP m l) k)), .int (nI k)] [] (mk s) Q = am_Rn L xs d 117 34 [.ref 121, .int (nI m), .int (nI (laF (eqP m l) l.length)), .int (nI l.length)] [] (mk s) Q
  | 0, k, hmm, hk, Q => by
    have e : k = l.length := by omega
    subst e
    have h1 : nI l.length ≤ nI l.length := nI_le (Nat.le_refl _) (by omega)
    rw [r117_4]
    simp only [r117_5, r117_6, r117_9, am_li0, am_liS, am_laR0, g121_35, h35, h1, if_true]
  | mm + 1, k, hmm, hk, Q => by
    have h1 : ¬ nI l.length ≤ nI k := nI_ge (by omega) (by omega)
    have k1 : am_in (nI k) 36 = true := in_of (by omega) (by decide)
    have k2 : (nI k).toNatClampNeg = k := nI_clamp (by omega)
    have e1 := hl k (by omega)
    have e2 := h31 _ (nthL_mem (show k < l.length by omega))
    rw [← m_out_at hm36 hn h35 hl h31 mm (k + 1) (by omega) (by omega) Q, laF_s, r117_4]
    by_cases c : nthL l k = m
    · have c2 : eqP m l k = true := decide_eq_true c
      rw [c] at e1
      rw [if_pos c2]
      simp only [r117_5, r117_6, r117_9, r117_12, r117_13, r117_16, r117_17, r117_18, r117_19, r117_22, r117_23, r117_27, r117_28, r117_31, am_li0, am_liS, am_laR0, g121_34, g121_35, a151, h35, h1, k1, k2, e1, nI_1, not_true, if_false, List.length_cons, List.length_nil, List.set_cons_succ, List.set_cons_zero, Nat.reduceAdd, Nat.reduceLT, Nat.zero_le, Nat.reduceLeDiff, and_true, true_and]
    · have c2 : ¬ eqP m l k = true := fun q => c (of_decide_eq_true q)
      have c3 : ¬ nI (nthL l k) = nI m := fun q => c ((nI_eq e2 (by omega)).mp q)
      rw [if_neg c2]
      simp only [r117_5, r117_6, r117_9, r117_12, r117_13, r117_16, r117_17, r117_18, r117_19, r117_26, r117_27, r117_28, r117_31, am_li0, am_liS, am_laR0, g121_34, g121_35, a151, h35, h1, k1, k2, e1, c3, nI_1, not_false_eq_true, if_true, if_false, List.length_cons, List.length_nil, List.set_cons_succ, List.set_cons_zero, Nat.reduceAdd, Nat.reduceLT, Nat.zero_le, Nat.reduceLeDiff, and_true, true_and]
theorem m_out_sh {n a : Nat} {f : Nat → Nat} {v1 v2 : Value} (hn : n < 36) : ∀ (m k : Nat) (s : St), n - k = m → a ≤ k → k ≤ n → s.2.1 121 35 = nI (n + 1) → (∀ i, i < a → s.1 151 i = nI (f i)) → (∀ i, a ≤ i → i < k → s.1 151 i = nI (f (i + 1))) → (∀ i, k ≤ i → i ≤ n → s.1 151 i = nI (f i)) →
    ∃ s' : St, (∀ i, i < a → s'.1 151 i = nI (f i)) ∧ (∀ i, a ≤ i → i < n → s'.1 151 i = nI (f (i + 1))) ∧ (∀ q, q ≠ 151 → s'.1 q = s.1 q) ∧ s'.2 = s.2 ∧ ∀ Q : Option Value → am_S → Prop, am_Rn L xs d 117 36 [.ref 121, v1, v2, .int (nI k)] [] (mk s) Q = am_Rn L xs d 117 66 [.ref 121, v1, v2, .int (nI n)] [] (mk s') Q
  | 0, k, s, hm, ha, hk, h35, h1, h2, h3 => by
    have e : k = n := by omega
    subst e
    refine ⟨s, h1, h2, fun _ _ => rfl, rfl, fun Q => ?_⟩
    have e1 : nI (k + 1) ≤ nI (k + 1) := nI_le (Nat.le_refl _) (by omega)
    rw [r117_36]
    simp only [r117_37, r117_38, r117_39, r117_40, r117_43, am_li0, am_liS, am_laR0, g121_35, h35, nI_1, e1, if_true]
  | m + 1, k, s, hm, ha, hk, h35, h1, h2, h3 => by
    have e1 : ¬ nI (n + 1) ≤ nI (k + 1) := nI_ge (by omega) (by omega)
    have k1 : am_in (nI k) 36 = true := in_of (by omega) (by decide)
    have k2 : (nI k).toNatClampNeg = k := nI_clamp (by omega)
    have k3 : am_in (nI (k + 1)) 36 = true := in_of (by omega) (by decide)
    have k4 : (nI (k + 1)).toNatClampNeg = k + 1 := nI_clamp (by omega)
    have er := h3 (k + 1) (by omega) (by omega)
    obtain ⟨s', a1, a2, a3, a4, a5⟩ := m_out_sh (n := n) (a := a) (f := f) (v1 := v1) (v2 := v2) hn m (k + 1) (w1 s 151 k (nI (f (k + 1)))) (by omega) (by omega) (by omega) h35 (fun i hi => by rw [w1_n _ _ _ (by omega)]; exact h1 i hi) (fun i i1 i2 => by
      by_cases e : i = k
      · rw [e, w1_a]
      · rw [w1_n _ _ _ e]; exact h2 i i1 (by omega)) (fun i i1 i2 => by rw [w1_n _ _ _ (by omega)]; exact h3 i (by omega) i2)
    refine ⟨s', a1, a2, fun q hq => (a3 q hq).trans (w1_o _ _ _ hq), a4, fun Q => ?_⟩
    rw [← a5 Q, r117_36]
    simp only [r117_37, r117_38, r117_39, r117_40, r117_43, r117_46, r117_47, r117_50, r117_51, r117_52, r117_55, r117_56, r117_57, r117_58, r117_59, r117_60, r117_63, am_li0, am_liS, am_laR0, g121_34, g121_35, a151, w151', h35, e1, k1, k2, k3, k4, er, nI_1, if_false, List.length_cons, List.length_nil, List.set_cons_succ, List.set_cons_zero, Nat.reduceAdd, Nat.reduceLT, Nat.zero_le, Nat.reduceLeDiff, and_true, true_and]
theorem m_out {s : St} {R : Rs} {v : Nat} (hR : rOk R) (h : mR s R) (hv : v ∈ R.2.1) :
    ∃ s' : St, mR s' (R.1, rmv v R.2.1, R.2.2) ∧ s'.1 148 = s.1 148 ∧ frL s s' ∧ ∀ Q : Option Value → am_S → Prop, am_Call L xs d 117 [.ref 121, .int (nI v)] (mk s) Q = Q none (mk s') := by
  have h31 := rOk_lt hR
  have hlen := rOk_len hR
  have hv36 : v < 36 := by have := hR.2.2.1 v hv; have := hR.1; omega
  obtain ⟨A, B, e1, e2, e3, e4⟩ := rmv_at hR.2.1 hv
  have hx : laF (eqP v R.2.1) R.2.1.length = A.length := by rw [e1]; exact laF_eq e3
  have hl1 : R.2.1.length = A.length + 1 + B.length := by rw [e1, List.length_append, List.length_cons]; omega
  have hl2 : (rmv v R.2.1).length = A.length + B.length := by rw [e4, List.length_append]
  have h35 : s.2.1 121 35 = nI (A.length + B.length + 1) := by rw [h.2.1, hl1, show A.length + 1 + B.length = A.length + B.length + 1 by omega]
  obtain ⟨s1, a1, a2, a3, a4, a5⟩ := m_out_sh (L := L) (xs := xs) (d := d) (n := A.length + B.length) (a := A.length) (f := nthL R.2.1) (v1 := .int (nI v)) (v2 := .int (nI A.length)) (by omega) B.length A.length s (by omega) (Nat.le_refl _) (by omega) h35 (fun i hi => h.2.2.1 i (by omega)) (fun i i1 i2 => by omega) (fun i i1 i2 => h.2.2.1 i (by omega))
  generalize hs2 : w2 s1 121 35 (nI (A.length + B.length)) = s2
  have b1 : s2.1 = s1.1 := by rw [← hs2, w2_1]
  have b4 : s2.2.1 121 35 = nI (A.length + B.length) := by rw [← hs2, w2_a]
  have b5 : ∀ q k, ¬ (q = 121 ∧ k = 35) → s2.2.1 q k = s.2.1 q k := fun q k n1 => by rw [← hs2, w2_o _ _ n1, a4]
  have b6 : s2.2.2 = s.2.2 := by rw [← hs2, w2_g, a4]
  refine ⟨s2, ⟨by rw [b5 _ _ (by omega)]; exact h.1, by dsimp only; rw [hl2]; exact b4, fun k hk => ?_, fun n hn => ?_⟩, by rw [b1, a3 148 (by omega)], ⟨fun q n1 n2 => by rw [b1, a3 q n2], b5, b6⟩, fun Q => ?_⟩
  · have hk : k < (rmv v R.2.1).length := hk
    show s2.1 151 k = nI (nthL (rmv v R.2.1) k)
    rw [b1, e4]
    by_cases c : k < A.length
    · rw [a1 k c, e1, nthL_app1 c, nthL_app1 c]
    · rw [a2 k (by omega) (by omega), e1]
      obtain ⟨i, hi⟩ : ∃ i, k = A.length + i := ⟨k - A.length, by omega⟩
      rw [hi, show A.length + i + 1 = A.length + (i + 1) by omega, nthL_app2, nthL_app2, nthL_s]
  · show s2.1 148 n = R.2.2.1 n ∧ s2.1 149 n = R.2.2.2.1 n ∧ s2.1 150 n = R.2.2.2.2 n
    rw [b1, a3 148 (by omega), a3 149 (by omega), a3 150 (by omega)]
    exact h.2.2.2 n (rmv_mem.mp hn).1
  · have r := m_out_at (L := L) (xs := xs) (d := d) hv36 hlen h.2.1 h.2.2.1 h31 R.2.1.length 0 rfl (Nat.zero_le _) Q
    rw [hx] at r
    have r : am_Rn L xs d 117 4 [.ref 121, .int (nI v), .int 0, .int 0] [] (mk s) Q = _ := r
    have d35 : s1.2.1 121 35 = nI (A.length + B.length + 1) := by rw [a4]; exact h35
    have ep : nI (A.length + B.length + 1) - 1 = nI (A.length + B.length) := nI_pred _
    simp only [e117, r117_0, r117_1, r117_2, r117_3, List.length_cons, List.length_nil, List.set_cons_succ, List.set_cons_zero, Nat.reduceAdd, Nat.reduceLT, Nat.zero_le, Nat.reduceLeDiff, and_true, true_and]
    rw [r]
    simp only [r117_34, r117_35, am_li0, am_liS, List.length_cons, List.length_nil, List.set_cons_succ, List.set_cons_zero, Nat.reduceAdd, Nat.reduceLT, Nat.zero_le, Nat.reduceLeDiff, and_true, true_and]
    rw [a5 Q]
    simp only [r117_66, r117_67, r117_68, r117_71, r117_72, r117_73, r117_76, am_li0, am_liS, am_laR0, g121_35, v121_35', d35, ep, hs2, am_okR, am_okI, List.length_cons, List.length_nil, Nat.reduceAdd, Nat.zero_le, Nat.reduceLeDiff, and_true, true_and]
/-! what a step does -/
/-- what does may change -/
def frE (s s' : St) : Prop := (∀ q, ¬ (147 ≤ q ∧ q ≤ 151) → s'.1 q = s.1 q) ∧ (∀ q k, ¬ (q = 121 ∧ k = 29) → ¬ (q = 121 ∧ k = 35) → s'.2.1 q k = s.2.1 q k) ∧ s'.2.2 = s.2.2
theorem frE_t {s s1 s2 : St} (h : frE s s1) (h' : frE s1 s2) : frE s s2 := ⟨fun q a => (h'.1 q a).trans (h.1 q a), fun q k a b => (h'.2.1 q k a b).trans (h.2.1 q k a b), h'.2.2.trans h.2.2⟩
theorem frL_E {s s' : St} (h : frL s s') : frE s s' := ⟨fun q hq => h.1 q (by omega) (by omega), fun q k _ h2 => h.2.1 q k h2, h.2.2⟩
theorem thA_congr {s s' : St} {l : List Nat} (h : s'.1 147 = s.1 147) (ht : thA s l) : thA s' l := fun n hn => by rw [h]; exact ht n hn
theorem m_inserted {s : St} {R : Rs} {v : Nat} {p b y x : Int32} (hR : rOk R) (h : mR s R) (ht : thA s R.2.1) (hv : v ∉ R.2.1) (hvu : v < 36) (hp : p ≠ -2) (hb : b < 0 ∨ ∃ m, b = nI m ∧ m < 36) :
    ∃ s' : St, mR s' (max R.1 (v + 1), insB R.2.1 b v, upd R.2.2.1 v p, upd R.2.2.2.1 v y, upd R.2.2.2.2 v x) ∧ thA s' (insB R.2.1 b v) ∧ frE s s' ∧ ∀ Q : Option Value → am_S → Prop, am_Call L xs (d + 1) 115 [.ref 121, .int (nI v), .int p, .int b, .int y, .int x] (mk s) Q = Q none (mk s') := by
  have h31 := rOk_lt hR
  have h36 := hR.1
  generalize hs1 : w1 (w1 (w1 s 147 v 1) 149 v y) 150 v x = s1
  have a1 : s1.1 147 = upd (s.1 147) v 1 := by rw [← hs1, w1_o _ _ _ (by omega), w1_o _ _ _ (by omega), w1_q]
  have a2 : s1.1 149 = upd (s.1 149) v y := by rw [← hs1, w1_o _ _ _ (by omega), w1_q, w1_o _ _ _ (by omega)]
  have a3 : s1.1 150 = upd (s.1 150) v x := by rw [← hs1, w1_q, w1_o _ _ _ (by omega), w1_o _ _ _ (by omega)]
  have a4 : ∀ q, q ≠ 147 → q ≠ 149 → q ≠ 150 → s1.1 q = s.1 q := fun q n1 n2 n3 => by rw [← hs1, w1_o _ _ _ n3, w1_o _ _ _ n2, w1_o _ _ _ n1]
  have a5 : s1.2 = s.2 := by rw [← hs1]; rfl
  have hne : ∀ n, n ∈ R.2.1 → n ≠ v := fun n hn e => hv (by rw [← e]; exact hn)
  have hR1 : rOk (R.1, R.2.1, R.2.2.1, upd R.2.2.2.1 v y, upd R.2.2.2.2 v x) := hR
  have m1 : mR s1 (R.1, R.2.1, R.2.2.1, upd R.2.2.2.1 v y, upd R.2.2.2.2 v x) := ⟨by rw [a5]; exact h.1, by rw [a5]; exact h.2.1, fun k hk => by rw [a4 151 (by omega) (by omega) (by omega)]; exact h.2.2.1 k hk, fun n hn => by
    dsimp only
    rw [a4 148 (by omega) (by omega) (by omega), a2, a3, upd_n _ _ (hne n hn), upd_n _ _ (hne n hn), upd_n _ _ (hne n hn), upd_n _ _ (hne n hn)]
    exact h.2.2.2 n hn⟩
  obtain ⟨s2, b1, b2, b3⟩ := m_into (L := L) (xs := xs) (d := d) (p := p) (b := b) hR1 m1 hv hvu hb (by rw [a2, upd_s]; exact (upd_s _ _ _).symm) (by rw [a3, upd_s]; exact (upd_s _ _ _).symm)
  generalize hs3 : w2 s2 121 29 (nI (max R.1 (v + 1))) = s3
  have c1 : s3.1 = s2.1 := by rw [← hs3, w2_1]
  have c2 : s3.2.1 121 29 = nI (max R.1 (v + 1)) := by rw [← hs3, w2_a]
  have c3 : ∀ q k, ¬ (q = 121 ∧ k = 29) → s3.2.1 q k = s2.2.1 q k := fun q k n1 => by rw [← hs3, w2_o _ _ n1]
  have c4 : s3.2.2 = s2.2.2 := by rw [← hs3, w2_g]
  refine ⟨s3, ⟨c2, by rw [c3 _ _ (by omega)]; exact b1.2.1, fun k hk => by rw [c1]; exact b1.2.2.1 k hk, fun n hn => by rw [c1]; exact b1.2.2.2 n hn⟩, fun n hn => ?_, ⟨fun q hq => by rw [c1, b2.1 q (by omega) (by omega), a4 q (by omega) (by omega) (by omega)], fun q k n1 n2 => by rw [c3 q k n1, b2.2.1 q k n2, a5], by rw [c4, b2.2.2, a5]⟩, fun Q => ?_⟩
  · rw [c1, b2.1 147 (by omega) (by omega), a1]
    by_cases e : n = v
    · rw [e, upd_s, decide_eq_true ((insB_mem h31).mpr (Or.inl rfl))]; rfl
    · rw [upd_n _ _ e, ht n hn]
      congr 1
      rw [decide_eq_decide, insB_mem h31]
      exact ⟨fun q => Or.inr q, fun q => q.resolve_left e⟩
  · have p3 : am_in (nI v) 36 = true := in_of (by omega) (by decide)
    have p4 : (nI v).toNatClampNeg = v := nI_clamp (by omega)
    have nb1 : vp_nar .boolean 1 = 1 := rfl
    have d29 : s2.2.1 121 29 = nI R.1 := b1.1
    by_cases c : v < R.1
    · have e1 : nI v < nI R.1 := nI_lt c (by omega)
      have e2 : max R.1 (v + 1) = R.1 := by omega
      rw [e2] at hs3
      simp only [e115, r115_0, r115_1, r115_4, r115_5, r115_6, r115_7, r115_8, r115_11, r115_12, r115_14, r115_15, r115_16, r115_19, r115_20, r115_22, r115_23, r115_24, r115_25, r115_26, r115_27, r115_30, r115_31, r115_32, r115_33, r115_36, r115_45, r115_46, r115_49, r115_52, am_li0, am_liS, am_laR0, am_tN, m_oc, g121_29, g121_30, g121_32, g121_33, w147', w149', w150', v121_29', p3, p4, nb1, hs1, b3, d29, e1, hs3, if_true, am_okI, am_okR, List.length_cons, List.length_nil, Nat.reduceAdd, Nat.zero_le, Nat.reduceLeDiff, and_true, true_and]
    · have e1 : ¬ nI v < nI R.1 := nI_nlt (by omega) (by omega)
      have e2 : max R.1 (v + 1) = v + 1 := by omega
      rw [e2] at hs3
      simp only [e115, r115_0, r115_1, r115_4, r115_5, r115_6, r115_7, r115_8, r115_11, r115_12, r115_14, r115_15, r115_16, r115_19, r115_20, r115_22, r115_23, r115_24, r115_25, r115_26, r115_27, r115_30, r115_31, r115_32, r115_33, r115_36, r115_39, r115_40, r115_41, r115_42, r115_49, r115_52, am_li0, am_liS, am_laR0, am_tN, m_oc, g121_29, g121_30, g121_32, g121_33, w147', w149', w150', v121_29', p3, p4, nb1, hs1, b3, d29, e1, hs3, nI_1, if_false, am_okI, am_okR, List.length_cons, List.length_nil, Nat.reduceAdd, Nat.zero_le, Nat.reduceLeDiff, and_true, true_and]
end
