/-! What is known of the store behind the constructors -/
theorem gF_int {s : St} {p k ci : Nat} {fs : List (Nat ⊕ Nat)} (h : in_sk[p]? = some (.inr (.inr (ci, fs)))) (hk : fs[k]? = some (.inr 0)) : in_gF (mk s) p k = s.2.1 p k := by
  unfold in_gF mk
  rw [am_mk_at h]
  simp only [am_mc, List.getElem?_mapIdx, hk]
  rfl
theorem gA_arr {s : St} {p t n : Nat} (h : in_sk[p]? = some (.inl (t, n))) : in_gA (mk s) p = s.1 p := by
  unfold in_gA mk
  rw [am_mk_at h]
  rfl
theorem gB_arr {s : St} {p t n : Nat} (h : in_sk[p]? = some (.inr (.inl (t, n)))) : in_gB (mk s) p = in_B p := by
  unfold in_gB mk
  rw [am_mk_at h]
  rfl
theorem in_facts : (∀ j, j < 3 → in_B 1 j = some (2 + 5 * j)) ∧ (∀ j, j < 6 → in_B 37 j = some (38 + j) ∧ in_B 73 j = some (74 + j) ∧ in_B 103 j = some (104 + j)) ∧ in_St.2.1 0 6 = 0 ∧ in_St.2.1 0 7 = 0 ∧
    (∀ j, j < 3 → in_St.2.1 (2 + 5 * j) 4 = 0 ∧ ∀ i, i < 12 → in_St.1 (2 + 5 * j + 1) i = -2) ∧ (∀ j, j < 4 → in_St.1 122 j = 0 ∧ in_St.1 138 j = 0) ∧ in_St.2.1 121 26 = 0 ∧ in_St.2.1 121 28 = 0 := by
  have h := in_mk.2
  unfold in_fc at h
  simp only [Bool.and_eq_true, decide_eq_true_eq, beq_iff_eq, List.all_eq_true, List.mem_range] at h
  obtain ⟨⟨⟨⟨⟨⟨⟨⟨⟨⟨⟨-, -⟩, h1⟩, h2⟩, h3⟩, h4⟩, h5⟩, -⟩, -⟩, h8⟩, h9⟩, h10⟩ := h
  refine ⟨fun j hj => ?_, fun j hj => ?_, ?_, ?_, fun j hj => ?_, fun j hj => ?_, ?_, ?_⟩
  · rw [← gB_arr (s := in_St) (p := 1) rfl]; exact h1 j hj
  · obtain ⟨⟨q1, q2⟩, q3⟩ := h2 j hj
    rw [gB_arr rfl] at q1 q2 q3
    exact ⟨q1, q2, q3⟩
  · rw [gF_int rfl rfl] at h3; exact h3
  · rw [gF_int rfl rfl] at h4; exact h4
  · have hp : 2 + 5 * j ∈ [2, 7, 12, 18] := by
      match j, hj with
      | 0, _ => decide
      | 1, _ => decide
      | 2, _ => decide
    obtain ⟨q1, q2⟩ := h5 _ hp
    rw [gF_int (isF_t hj).1 rfl] at q1
    rw [gA_arr (isF_t hj).2.1] at q2
    exact ⟨q1, q2⟩
  · obtain ⟨q1, q2⟩ := h8 j hj
    rw [gA_arr rfl] at q1 q2
    exact ⟨q1, q2⟩
  · rw [gF_int rfl rfl] at h9; exact h9
  · rw [gF_int rfl rfl] at h10; exact h10
theorem t_tree {s : St} {j : Nat} {f : Nat → Prop} (h : j < 3) : am_ar2 (mk s) 1 (nI j) f = f (2 + 5 * j) := by
  have e := am_k_ar (sk := in_sk) (A := s.1) (B := in_B) (F := s.2.1) (G := s.2.2) (p := 1) (t := 2) (n := 3) (i := nI j) (f := f) rfl (Or.inl rfl)
  refine Eq.trans e ?_
  rw [nI_clamp (by omega), in_facts.1 j h]
  apply propext
  refine ⟨fun q => q.2, fun q => ⟨?_, q⟩⟩
  unfold am_in
  rw [nI_clamp (by omega)]
  simp only [Bool.and_eq_true, Bool.not_eq_true', decide_eq_false_iff_not, decide_eq_true_eq]
  exact ⟨nI_pos (by omega), h⟩
theorem in_of {j n : Nat} (h : j < n) (hn : n < 2 ^ 31) : am_in (nI j) n = true := by
  unfold am_in
  rw [nI_clamp (by omega)]
  simp only [Bool.and_eq_true, Bool.not_eq_true', decide_eq_false_iff_not, decide_eq_true_eq]
  exact ⟨nI_pos (by omega), h⟩
