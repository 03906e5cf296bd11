/-! Small methods of the class and of the reference -/
section
variable {L : Nat} {xs : Nat → Int32} {d : Nat} {s : St} {σ : am_S} {Q : Option Value → am_S → Prop}
theorem c_isTree1 {j : Nat} (h : j < 3) : am_Call L xs d 8 [.int (nI j)] σ Q = Q (some (.int 1)) σ := by
  have h1 : ¬ nI j < 0 := nI_pos (by omega)
  have h2 : ¬ (3 : Int32) ≤ nI j := nI_ge (b := 3) (by omega) (by omega)
  simp only [e8, r8_0, r8_1, r8_4, r8_5, r8_6, r8_9, r8_10, r8_13, r8_14, am_li0, h1, h2, if_false, or_true, eq_self]
theorem c_isTree0 {t : Int32} (h : t < 0 ∨ 3 ≤ t) : am_Call L xs d 8 [.int t] σ Q = Q (some (.int 0)) σ := by
  by_cases h1 : t < 0
  · simp only [e8, r8_0, r8_1, r8_4, r8_5, r8_6, r8_9, r8_10, r8_13, r8_14, am_li0, h1, if_true, true_or, eq_self]
  · have h2 : (3 : Int32) ≤ t := h.resolve_left h1
    simp only [e8, r8_0, r8_1, r8_4, r8_5, r8_6, r8_9, r8_10, r8_13, r8_14, am_li0, h1, h2, if_true, if_false, true_or, eq_self]
theorem m_isTree1 {j : Nat} (h : j < 3) : am_Call L xs d 85 [.int (nI j)] σ Q = Q (some (.int 1)) σ := by
  have h1 : ¬ nI j < 0 := nI_pos (by omega)
  have h2 : ¬ (3 : Int32) ≤ nI j := nI_ge (b := 3) (by omega) (by omega)
  simp only [e85, r85_0, r85_1, r85_4, r85_5, r85_6, r85_9, r85_10, r85_13, r85_14, am_li0, h1, h2, if_false, or_true, eq_self]
theorem m_isTree0 {t : Int32} (h : t < 0 ∨ 3 ≤ t) : am_Call L xs d 85 [.int t] σ Q = Q (some (.int 0)) σ := by
  by_cases h1 : t < 0
  · simp only [e85, r85_0, r85_1, r85_4, r85_5, r85_6, r85_9, r85_10, r85_13, r85_14, am_li0, h1, if_true, true_or, eq_self]
  · have h2 : (3 : Int32) ≤ t := h.resolve_left h1
    simp only [e85, r85_0, r85_1, r85_4, r85_5, r85_6, r85_9, r85_10, r85_13, r85_14, am_li0, h1, h2, if_true, if_false, true_or, eq_self]
/-- has: on a forest with u numbers used -/
theorem c_has {p n u : Nat} (hF : isF p n) (hn : n < 2 ^ 31) (hu : s.2.1 p 4 = nI u) (hun : u ≤ n) {x : Int32} :
    am_Call L xs d 9 [.ref p, .int x] (mk s) Q = Q (some (.int (if ∃ j, j < u ∧ x = nI j ∧ ¬ s.1 (p + 1) j = -2 then 1 else 0))) (mk s) := by
  rcases pk_ix x (n := u) (by omega) with h | h | ⟨j, hj, rfl⟩
  · have e : ¬ ∃ j, j < u ∧ x = nI j ∧ ¬ s.1 (p + 1) j = -2 := by
      rintro ⟨j, h1, rfl, -⟩
      exact nI_pos (by omega) h
    simp only [e9, r9_0, r9_1, r9_4, r9_5, r9_6, r9_9, r9_12, r9_13, r9_16, r9_17, r9_18, r9_20, r9_23, r9_24, r9_27, r9_28, am_li0, am_liS, am_laR0, am_laS, h, e, if_true, if_false, true_or, eq_self]
  · have h0 : ¬ x < 0 := fun q => by
      have h1 := Int32.le_iff_toInt_le.mp h
      have h2 := Int32.lt_iff_toInt_lt.mp q
      rw [nI_toInt (by omega)] at h1
      rw [Int32.toInt_zero] at h2
      omega
    have e : ¬ ∃ j, j < u ∧ x = nI j ∧ ¬ s.1 (p + 1) j = -2 := by
      rintro ⟨j, h1, rfl, -⟩
      exact nI_ge h1 (by omega) h
    simp only [e9, r9_0, r9_1, r9_4, r9_5, r9_6, r9_9, r9_12, r9_13, r9_16, r9_17, r9_18, r9_20, r9_23, r9_24, r9_27, r9_28, am_li0, am_liS, am_laR0, am_laS, f_used hF, hu, h0, h, e, if_true, if_false, true_or, eq_self]
  · have h0 : ¬ nI j < 0 := nI_pos (by omega)
    have h1 : ¬ nI u ≤ nI j := nI_ge hj (by omega)
    have h2 : am_in (nI j) n = true := in_of (by omega) hn
    have h3 : (nI j).toNatClampNeg = j := nI_clamp (by omega)
    by_cases hp : s.1 (p + 1) j = -2
    · have e : ¬ ∃ i, i < u ∧ nI j = nI i ∧ ¬ s.1 (p + 1) i = -2 := by
        rintro ⟨i, h4, h5, h6⟩
        rw [(nI_eq (by omega) (by omega)).mp h5] at hp
        exact h6 hp
      simp only [e9, r9_0, r9_1, r9_4, r9_5, r9_6, r9_9, r9_12, r9_13, r9_16, r9_17, r9_18, r9_20, r9_23, r9_24, r9_27, r9_28, am_li0, am_liS, am_laR0, am_laS, f_used hF, f_par hF, fa_par hF, hu, h0, h1, h2, h3, hp, e, if_true, if_false, true_or, eq_self, true_and]
    · have e : ∃ i, i < u ∧ nI j = nI i ∧ ¬ s.1 (p + 1) i = -2 := ⟨j, hj, rfl, hp⟩
      simp only [e9, r9_0, r9_1, r9_4, r9_5, r9_6, r9_9, r9_12, r9_13, r9_16, r9_17, r9_18, r9_20, r9_23, r9_24, r9_27, r9_28, am_li0, am_liS, am_laR0, am_laS, f_used hF, f_par hF, fa_par hF, hu, h0, h1, h2, h3, hp, e, if_true, if_false, or_true, eq_self, true_and]
end
