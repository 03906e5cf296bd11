/-! What the tables say, checked by program -/
def pg_is (w : Nat) (q : Cond) : Bool := decide (lw_tbl[w]? = some q) && pg_gd q
theorem pg_is_mem {w : Nat} {q : Cond} (h : pg_is w q = true) : q ∈ pg_words := by
  simp only [pg_is, Bool.and_eq_true] at h
  exact List.mem_filter.mpr ⟨List.mem_of_getElem? (of_decide_eq_true h.1), h.2⟩
theorem pg_good : ∀ w ∈ pg_words, (w.onTables && w.keeps) = true ∨ ∃ ty, w = .arrayClass ty := by
  intro w hw
  have h1 := (List.mem_filter.mp hw).2
  unfold pg_gd at h1
  rw [Bool.or_eq_true] at h1
  rcases h1 with h1 | h1
  · exact Or.inl h1
  · right; split at h1; exact ⟨_, rfl⟩; cases h1
theorem pg_in0 : ∀ w ∈ u_ws "TwigMerge" pg_T0 8, w ∈ pg_words := by
  have h : (List.range 8).all (fun k => pg_is ([267, 269, 271, 273, 275, 277, 279, 281].getD k 0) (u_lay "TwigMerge" pg_T0 k)) = true := by decide +kernel
  intro w hw
  obtain ⟨k, hk, rfl⟩ := List.mem_map.mp hw
  exact pg_is_mem (List.all_eq_true.mp h k hk)
theorem pg_nm0 : ∀ a, a < 8 → ∀ b, b < 8 → a ≠ b → (pg_T0 a).2.1 ≠ (pg_T0 b).2.1 := by decide +kernel
theorem pg_ty0 : ∀ k, k < 8 → parseFieldDescriptor (pg_T0 k).2.2.1 = some (pg_t0 k) := by decide +kernel
theorem pg_de0 : ∀ k, k < 8 → (pg_T0 k).1 = "TwigMerge" := by decide +kernel
theorem pg_df0 : ∀ k, k < 8 → defaultValue (pg_t0 k) = vp_V (pg_def 0) k := by decide +kernel
theorem pg_in1 : ∀ w ∈ u_ws "TwigMerge$Forest" pg_T1 5, w ∈ pg_words := by
  have h : (List.range 5).all (fun k => pg_is ([118, 120, 122, 124, 126].getD k 0) (u_lay "TwigMerge$Forest" pg_T1 k)) = true := by decide +kernel
  intro w hw
  obtain ⟨k, hk, rfl⟩ := List.mem_map.mp hw
  exact pg_is_mem (List.all_eq_true.mp h k hk)
theorem pg_nm1 : ∀ a, a < 5 → ∀ b, b < 5 → a ≠ b → (pg_T1 a).2.1 ≠ (pg_T1 b).2.1 := by decide +kernel
theorem pg_ty1 : ∀ k, k < 5 → parseFieldDescriptor (pg_T1 k).2.2.1 = some (pg_t1 k) := by decide +kernel
theorem pg_de1 : ∀ k, k < 5 → (pg_T1 k).1 = "TwigMerge$Forest" := by decide +kernel
theorem pg_df1 : ∀ k, k < 5 → defaultValue (pg_t1 k) = vp_V (pg_def 1) k := by decide +kernel
theorem pg_in2 : ∀ w ∈ u_ws "TwigMerge$Script" pg_T2 2, w ∈ pg_words := by
  have h : (List.range 2).all (fun k => pg_is ([181, 183].getD k 0) (u_lay "TwigMerge$Script" pg_T2 k)) = true := by decide +kernel
  intro w hw
  obtain ⟨k, hk, rfl⟩ := List.mem_map.mp hw
  exact pg_is_mem (List.all_eq_true.mp h k hk)
theorem pg_nm2 : ∀ a, a < 2 → ∀ b, b < 2 → a ≠ b → (pg_T2 a).2.1 ≠ (pg_T2 b).2.1 := by decide +kernel
theorem pg_ty2 : ∀ k, k < 2 → parseFieldDescriptor (pg_T2 k).2.2.1 = some (pg_t2 k) := by decide +kernel
theorem pg_de2 : ∀ k, k < 2 → (pg_T2 k).1 = "TwigMerge$Script" := by decide +kernel
theorem pg_df2 : ∀ k, k < 2 → defaultValue (pg_t2 k) = vp_V (pg_def 2) k := by decide +kernel
theorem pg_in3 : ∀ w ∈ u_ws "TwigMerge$Partners" pg_T3 8, w ∈ pg_words := by
  have h : (List.range 8).all (fun k => pg_is ([152, 154, 156, 158, 160, 162, 164, 166].getD k 0) (u_lay "TwigMerge$Partners" pg_T3 k)) = true := by decide +kernel
  intro w hw
  obtain ⟨k, hk, rfl⟩ := List.mem_map.mp hw
  exact pg_is_mem (List.all_eq_true.mp h k hk)
theorem pg_nm3 : ∀ a, a < 8 → ∀ b, b < 8 → a ≠ b → (pg_T3 a).2.1 ≠ (pg_T3 b).2.1 := by decide +kernel
theorem pg_ty3 : ∀ k, k < 8 → parseFieldDescriptor (pg_T3 k).2.2.1 = some (pg_t3 k) := by decide +kernel
theorem pg_de3 : ∀ k, k < 8 → (pg_T3 k).1 = "TwigMerge$Partners" := by decide +kernel
theorem pg_df3 : ∀ k, k < 8 → defaultValue (pg_t3 k) = vp_V (pg_def 3) k := by decide +kernel
theorem pg_in4 : ∀ w ∈ u_ws "TwigMerge$Difference" pg_T4 9, w ∈ pg_words := by
  have h : (List.range 9).all (fun k => pg_is ([200, 202, 204, 206, 208, 210, 212, 214, 216].getD k 0) (u_lay "TwigMerge$Difference" pg_T4 k)) = true := by decide +kernel
  intro w hw
  obtain ⟨k, hk, rfl⟩ := List.mem_map.mp hw
  exact pg_is_mem (List.all_eq_true.mp h k hk)
theorem pg_nm4 : ∀ a, a < 9 → ∀ b, b < 9 → a ≠ b → (pg_T4 a).2.1 ≠ (pg_T4 b).2.1 := by decide +kernel
theorem pg_ty4 : ∀ k, k < 9 → parseFieldDescriptor (pg_T4 k).2.2.1 = some (pg_t4 k) := by decide +kernel
theorem pg_de4 : ∀ k, k < 9 → (pg_T4 k).1 = "TwigMerge$Difference" := by decide +kernel
theorem pg_df4 : ∀ k, k < 9 → defaultValue (pg_t4 k) = vp_V (pg_def 4) k := by decide +kernel
theorem pg_in5 : ∀ w ∈ u_ws "TwigMerge$Merger" pg_T5 9, w ∈ pg_words := by
  have h : (List.range 9).all (fun k => pg_is ([240, 242, 244, 246, 248, 250, 252, 254, 256].getD k 0) (u_lay "TwigMerge$Merger" pg_T5 k)) = true := by decide +kernel
  intro w hw
  obtain ⟨k, hk, rfl⟩ := List.mem_map.mp hw
  exact pg_is_mem (List.all_eq_true.mp h k hk)
theorem pg_nm5 : ∀ a, a < 9 → ∀ b, b < 9 → a ≠ b → (pg_T5 a).2.1 ≠ (pg_T5 b).2.1 := by decide +kernel
theorem pg_ty5 : ∀ k, k < 9 → parseFieldDescriptor (pg_T5 k).2.2.1 = some (pg_t5 k) := by decide +kernel
theorem pg_de5 : ∀ k, k < 9 → (pg_T5 k).1 = "TwigMerge$Merger" := by decide +kernel
theorem pg_df5 : ∀ k, k < 9 → defaultValue (pg_t5 k) = vp_V (pg_def 5) k := by decide +kernel
theorem pg_in6 : ∀ w ∈ u_ws "TwigMergeModel" pg_T6 40, w ∈ pg_words := by
  have h : (List.range 40).all (fun k => pg_is ([669, 671, 673, 675, 677, 679, 681, 683, 685, 687, 689, 691, 693, 695, 697, 699, 701, 703, 705, 707, 709, 711, 713, 715, 717, 719, 721, 723, 725, 727, 729, 731, 733, 735, 737, 739, 741, 743, 745, 747].getD k 0) (u_lay "TwigMergeModel" pg_T6 k)) = true := by decide +kernel
  intro w hw
  obtain ⟨k, hk, rfl⟩ := List.mem_map.mp hw
  exact pg_is_mem (List.all_eq_true.mp h k hk)
theorem pg_nm6 : ∀ a, a < 40 → ∀ b, b < 40 → a ≠ b → (pg_T6 a).2.1 ≠ (pg_T6 b).2.1 := by decide +kernel
theorem pg_ty6 : ∀ k, k < 40 → parseFieldDescriptor (pg_T6 k).2.2.1 = some (pg_t6 k) := by decide +kernel
theorem pg_de6 : ∀ k, k < 40 → (pg_T6 k).1 = "TwigMergeModel" := by decide +kernel
theorem pg_df6 : ∀ k, k < 40 → defaultValue (pg_t6 k) = vp_V (pg_def 6) k := by decide +kernel
theorem pg_cls {ci : Nat} (h : ci < 7) : pg_cl[ci]? = some (pg_cn ci, pg_T ci, pg_N ci) ∧ (∀ w ∈ u_ws (pg_cn ci) (pg_T ci) (pg_N ci), w ∈ pg_words) ∧ (∀ a, a < pg_N ci → ∀ b, b < pg_N ci → a ≠ b → (pg_T ci a).2.1 ≠ (pg_T ci b).2.1) ∧ (∀ k, k < pg_N ci → parseFieldDescriptor (pg_T ci k).2.2.1 = some (pg_t ci k)) ∧ (∀ k, k < pg_N ci → (pg_T ci k).1 = pg_cn ci) ∧ (∀ k, k < pg_N ci → defaultValue (pg_t ci k) = vp_V (pg_def ci) k) ∧ (pg_def ci).length = pg_N ci := by
  match ci, h with
  | 0, _ => exact ⟨rfl, pg_in0, pg_nm0, pg_ty0, pg_de0, pg_df0, rfl⟩
  | 1, _ => exact ⟨rfl, pg_in1, pg_nm1, pg_ty1, pg_de1, pg_df1, rfl⟩
  | 2, _ => exact ⟨rfl, pg_in2, pg_nm2, pg_ty2, pg_de2, pg_df2, rfl⟩
  | 3, _ => exact ⟨rfl, pg_in3, pg_nm3, pg_ty3, pg_de3, pg_df3, rfl⟩
  | 4, _ => exact ⟨rfl, pg_in4, pg_nm4, pg_ty4, pg_de4, pg_df4, rfl⟩
  | 5, _ => exact ⟨rfl, pg_in5, pg_nm5, pg_ty5, pg_de5, pg_df5, rfl⟩
  | 6, _ => exact ⟨rfl, pg_in6, pg_nm6, pg_ty6, pg_de6, pg_df6, rfl⟩
def pg_fchk (q : Nat × Nat × Nat × Nat × Nat) : Bool := decide (q.2.2.1 < 7) && decide (q.2.2.2.1 < pg_N q.2.2.1) && pg_is q.2.2.2.2 (.fieldLink (pg_cn q.1) q.2.1 (pg_T q.2.2.1 q.2.2.2.1).1 (pg_T q.2.2.1 q.2.2.2.1).2.1 (pg_T q.2.2.1 q.2.2.2.1).2.2.1)
theorem pg_fall : pg_fldL.all pg_fchk = true := by decide +kernel
theorem pg_fld_ok {own idx ci k : Nat} (h : pg_fld own idx = some (ci, k)) : ∃ (C : String) (T : u_T) (N : Nat) (ty : Nat → FieldType), pg_cl[ci]? = some (C, T, N) ∧ k < N ∧ (∀ w ∈ u_ws C T N, w ∈ pg_words) ∧ Cond.fieldLink (pg_cn own) idx (T k).1 (T k).2.1 (T k).2.2.1 ∈ pg_words ∧ (∀ j, j < N → parseFieldDescriptor (T j).2.2.1 = some (ty j)) ∧ (∀ a, a < N → ∀ b, b < N → a ≠ b → (T a).2.1 ≠ (T b).2.1) ∧ am_kd (ty k) = pg_fk ci k ∧ (T k).2.2.2 = pg_ff ci k ∧ (T k).1 = C ∧ C = pg_cn ci := by
  unfold pg_fld at h
  obtain ⟨q, hq, he⟩ := Option.map_eq_some_iff.mp h
  have h1 := List.find?_some hq
  have h2 := List.all_eq_true.mp pg_fall q (List.mem_of_find?_eq_some hq)
  simp only [Bool.and_eq_true, beq_iff_eq] at h1
  simp only [pg_fchk, Bool.and_eq_true, decide_eq_true_eq] at h2
  obtain ⟨e1, e2⟩ := Prod.mk.inj he
  obtain ⟨rfl, rfl⟩ := h1
  subst e1; subst e2
  obtain ⟨c1, c2, c3, c4, c5, c6, c7⟩ := pg_cls h2.1.1
  exact ⟨_, _, _, pg_t q.2.2.1, c1, h2.1.2, c2, pg_is_mem h2.2, c4, c3, rfl, rfl, c5 _ h2.1.2, rfl⟩
def pg_nchk (q : Nat × Nat × Nat × Nat) : Bool := decide (q.2.2.1 < 7) && pg_is q.2.2.2 (.classLink (pg_cn q.1) q.2.1 (pg_cn q.2.2.1)) && pg_is ([80, 89, 170, 137, 131, 221, 624].getD q.2.2.1 0) (.instantiable (pg_cn q.2.2.1) (pg_N q.2.2.1)) && pg_is ([68, 69, 73, 72, 71, 74, 75].getD q.2.2.1 0) (.initialized (pg_cn q.2.2.1))
theorem pg_nall : pg_newL.all pg_nchk = true := by decide +kernel
theorem pg_new_ok {own idx ci : Nat} (h : pg_new own idx = some ci) : ∃ (C : String) (T : u_T) (N : Nat) (ty : Nat → FieldType), pg_cl[ci]? = some (C, T, N) ∧ (∀ w ∈ u_ws C T N, w ∈ pg_words) ∧ (∀ j, j < N → parseFieldDescriptor (T j).2.2.1 = some (ty j)) ∧ Cond.classLink (pg_cn own) idx C ∈ pg_words ∧ Cond.instantiable C N ∈ pg_words ∧ Cond.initialized C ∈ pg_words ∧ (pg_def ci).length = N ∧ (∀ j, j < N → defaultValue (ty j) = vp_V (pg_def ci) j) ∧ ci < 7 := by
  unfold pg_new at h
  obtain ⟨q, hq, he⟩ := Option.map_eq_some_iff.mp h
  have h1 := List.find?_some hq
  have h2 := List.all_eq_true.mp pg_nall q (List.mem_of_find?_eq_some hq)
  simp only [Bool.and_eq_true, beq_iff_eq] at h1
  simp only [pg_nchk, Bool.and_eq_true, decide_eq_true_eq] at h2
  obtain ⟨rfl, rfl⟩ := h1
  subst he
  obtain ⟨c1, c2, c3, c4, c5, c6, c7⟩ := pg_cls h2.1.1.1
  exact ⟨_, _, _, pg_t q.2.2.1, c1, c2, c4, pg_is_mem h2.1.1.2, pg_is_mem h2.1.2, pg_is_mem h2.2, c7, c6, h2.1.1.1⟩
theorem pg_i0 : Cond.instantiable (pg_cn 0) (pg_N 0) ∈ pg_words := pg_is_mem (w := 80) (by decide +kernel)
theorem pg_i1 : Cond.instantiable (pg_cn 1) (pg_N 1) ∈ pg_words := pg_is_mem (w := 89) (by decide +kernel)
theorem pg_i2 : Cond.instantiable (pg_cn 2) (pg_N 2) ∈ pg_words := pg_is_mem (w := 170) (by decide +kernel)
theorem pg_i3 : Cond.instantiable (pg_cn 3) (pg_N 3) ∈ pg_words := pg_is_mem (w := 137) (by decide +kernel)
theorem pg_i4 : Cond.instantiable (pg_cn 4) (pg_N 4) ∈ pg_words := pg_is_mem (w := 131) (by decide +kernel)
theorem pg_i5 : Cond.instantiable (pg_cn 5) (pg_N 5) ∈ pg_words := pg_is_mem (w := 221) (by decide +kernel)
theorem pg_i6 : Cond.instantiable (pg_cn 6) (pg_N 6) ∈ pg_words := pg_is_mem (w := 624) (by decide +kernel)
theorem pg_inst {ci : Nat} (h : ci < 7) : Cond.instantiable (pg_cn ci) (pg_N ci) ∈ pg_words := by
  match ci, h with
  | 0, _ => exact pg_i0
  | 1, _ => exact pg_i1
  | 2, _ => exact pg_i2
  | 3, _ => exact pg_i3
  | 4, _ => exact pg_i4
  | 5, _ => exact pg_i5
  | 6, _ => exact pg_i6
theorem pg_ac_int : Cond.arrayClass (newarray.typeOf .int) ∈ pg_words := pg_is_mem (w := 129) (by decide +kernel)
theorem pg_ac_bool : Cond.arrayClass (newarray.typeOf .boolean) ∈ pg_words := pg_is_mem (w := 219) (by decide +kernel)
theorem pg_ov_obj : Cond.arrayOver (.object (pg_cn pg_ae)) ∈ lw_tbl := List.mem_of_getElem? (i := 88) (by decide +kernel)
theorem pg_ov_arr : Cond.arrayOver (.array .int) ∈ lw_tbl := List.mem_of_getElem? (i := 176) (by decide +kernel)
theorem pg_ana_ok {own idx : Nat} (h : pg_ana own idx = true) : Cond.classLink (pg_cn own) idx (pg_cn pg_ae) ∈ pg_words := by
  unfold pg_ana at h
  obtain ⟨q, hq, h1⟩ := List.any_eq_true.mp h
  have h2 := List.all_eq_true.mp pg_nall q hq
  simp only [Bool.and_eq_true, beq_iff_eq] at h1
  simp only [pg_nchk, Bool.and_eq_true, decide_eq_true_eq] at h2
  obtain ⟨⟨rfl, rfl⟩, e⟩ := h1
  rw [← e]
  exact pg_is_mem h2.1.1.2
theorem pg_mna_ok {own idx : Nat} (h : pg_mna own idx = true) : Cond.classLink (pg_cn own) idx ("[" ++ (FieldType.array .int).toString) ∈ pg_words := by
  simp only [pg_mna, Bool.and_eq_true, beq_iff_eq] at h
  obtain ⟨rfl, rfl⟩ := h
  exact pg_is_mem (w := 175) (by decide +kernel)
theorem pg_ae_ok : ∃ (T : u_T) (N : Nat), pg_cl[pg_ae]? = some (pg_cn pg_ae, T, N) := ⟨_, _, rfl⟩
def pg_lchk (q : Nat × Nat × Int32 × Nat) : Bool := pg_is q.2.2.2 (.constant (pg_cn q.1) q.2.1 q.2.2.1)
theorem pg_lall : pg_ldcL.all pg_lchk = true := by decide +kernel
theorem pg_ldc_ok {own idx : Nat} {v : Int32} (h : pg_ldc own idx = some v) : Cond.constant (pg_cn own) idx v ∈ pg_words := by
  unfold pg_ldc at h
  obtain ⟨q, hq, he⟩ := Option.map_eq_some_iff.mp h
  have h1 := List.find?_some hq
  have h2 := List.all_eq_true.mp pg_lall q (List.mem_of_find?_eq_some hq)
  simp only [Bool.and_eq_true, beq_iff_eq] at h1
  obtain ⟨rfl, rfl⟩ := h1
  subst he
  exact pg_is_mem h2
set_option maxRecDepth 100000 in
theorem pg_c0 : Cond.code (pg_y 0) (pg_code 0) (pg_maxL 0) (pg_ret 0) ∈ lw_tbl := List.mem_of_getElem? (i := 83) rfl
set_option maxRecDepth 100000 in
theorem pg_c1 : Cond.code (pg_y 1) (pg_code 1) (pg_maxL 1) (pg_ret 1) ∈ lw_tbl := List.mem_of_getElem? (i := 92) rfl
set_option maxRecDepth 100000 in
theorem pg_c2 : Cond.code (pg_y 2) (pg_code 2) (pg_maxL 2) (pg_ret 2) ∈ lw_tbl := List.mem_of_getElem? (i := 96) rfl
set_option maxRecDepth 100000 in
theorem pg_c3 : Cond.code (pg_y 3) (pg_code 3) (pg_maxL 3) (pg_ret 3) ∈ lw_tbl := List.mem_of_getElem? (i := 134) rfl
set_option maxRecDepth 100000 in
theorem pg_c4 : Cond.code (pg_y 4) (pg_code 4) (pg_maxL 4) (pg_ret 4) ∈ lw_tbl := List.mem_of_getElem? (i := 140) rfl
set_option maxRecDepth 100000 in
theorem pg_c5 : Cond.code (pg_y 5) (pg_code 5) (pg_maxL 5) (pg_ret 5) ∈ lw_tbl := List.mem_of_getElem? (i := 173) rfl
set_option maxRecDepth 100000 in
theorem pg_c6 : Cond.code (pg_y 6) (pg_code 6) (pg_maxL 6) (pg_ret 6) ∈ lw_tbl := List.mem_of_getElem? (i := 224) rfl
set_option maxRecDepth 100000 in
theorem pg_c7 : Cond.code (pg_y 7) (pg_code 7) (pg_maxL 7) (pg_ret 7) ∈ lw_tbl := List.mem_of_getElem? (i := 287) rfl
set_option maxRecDepth 100000 in
theorem pg_c8 : Cond.code (pg_y 8) (pg_code 8) (pg_maxL 8) (pg_ret 8) ∈ lw_tbl := List.mem_of_getElem? (i := 290) rfl
set_option maxRecDepth 100000 in
theorem pg_c9 : Cond.code (pg_y 9) (pg_code 9) (pg_maxL 9) (pg_ret 9) ∈ lw_tbl := List.mem_of_getElem? (i := 294) rfl
set_option maxRecDepth 100000 in
theorem pg_c10 : Cond.code (pg_y 10) (pg_code 10) (pg_maxL 10) (pg_ret 10) ∈ lw_tbl := List.mem_of_getElem? (i := 298) rfl
set_option maxRecDepth 100000 in
theorem pg_c11 : Cond.code (pg_y 11) (pg_code 11) (pg_maxL 11) (pg_ret 11) ∈ lw_tbl := List.mem_of_getElem? (i := 302) rfl
set_option maxRecDepth 100000 in
theorem pg_c12 : Cond.code (pg_y 12) (pg_code 12) (pg_maxL 12) (pg_ret 12) ∈ lw_tbl := List.mem_of_getElem? (i := 306) rfl
set_option maxRecDepth 100000 in
theorem pg_c13 : Cond.code (pg_y 13) (pg_code 13) (pg_maxL 13) (pg_ret 13) ∈ lw_tbl := List.mem_of_getElem? (i := 313) rfl
set_option maxRecDepth 100000 in
theorem pg_c14 : Cond.code (pg_y 14) (pg_code 14) (pg_maxL 14) (pg_ret 14) ∈ lw_tbl := List.mem_of_getElem? (i := 318) rfl
set_option maxRecDepth 100000 in
theorem pg_c15 : Cond.code (pg_y 15) (pg_code 15) (pg_maxL 15) (pg_ret 15) ∈ lw_tbl := List.mem_of_getElem? (i := 322) rfl
set_option maxRecDepth 100000 in
theorem pg_c16 : Cond.code (pg_y 16) (pg_code 16) (pg_maxL 16) (pg_ret 16) ∈ lw_tbl := List.mem_of_getElem? (i := 326) rfl
set_option maxRecDepth 100000 in
theorem pg_c17 : Cond.code (pg_y 17) (pg_code 17) (pg_maxL 17) (pg_ret 17) ∈ lw_tbl := List.mem_of_getElem? (i := 330) rfl
set_option maxRecDepth 100000 in
theorem pg_c18 : Cond.code (pg_y 18) (pg_code 18) (pg_maxL 18) (pg_ret 18) ∈ lw_tbl := List.mem_of_getElem? (i := 334) rfl
set_option maxRecDepth 100000 in
theorem pg_c19 : Cond.code (pg_y 19) (pg_code 19) (pg_maxL 19) (pg_ret 19) ∈ lw_tbl := List.mem_of_getElem? (i := 338) rfl
set_option maxRecDepth 100000 in
theorem pg_c20 : Cond.code (pg_y 20) (pg_code 20) (pg_maxL 20) (pg_ret 20) ∈ lw_tbl := List.mem_of_getElem? (i := 341) rfl
set_option maxRecDepth 100000 in
theorem pg_c21 : Cond.code (pg_y 21) (pg_code 21) (pg_maxL 21) (pg_ret 21) ∈ lw_tbl := List.mem_of_getElem? (i := 348) rfl
set_option maxRecDepth 100000 in
theorem pg_c22 : Cond.code (pg_y 22) (pg_code 22) (pg_maxL 22) (pg_ret 22) ∈ lw_tbl := List.mem_of_getElem? (i := 352) rfl
set_option maxRecDepth 100000 in
theorem pg_c23 : Cond.code (pg_y 23) (pg_code 23) (pg_maxL 23) (pg_ret 23) ∈ lw_tbl := List.mem_of_getElem? (i := 356) rfl
set_option maxRecDepth 100000 in
theorem pg_c24 : Cond.code (pg_y 24) (pg_code 24) (pg_maxL 24) (pg_ret 24) ∈ lw_tbl := List.mem_of_getElem? (i := 367) rfl
set_option maxRecDepth 100000 in
theorem pg_c25 : Cond.code (pg_y 25) (pg_code 25) (pg_maxL 25) (pg_ret 25) ∈ lw_tbl := List.mem_of_getElem? (i := 371) rfl
set_option maxRecDepth 100000 in
theorem pg_c26 : Cond.code (pg_y 26) (pg_code 26) (pg_maxL 26) (pg_ret 26) ∈ lw_tbl := List.mem_of_getElem? (i := 377) rfl
set_option maxRecDepth 100000 in
theorem pg_c27 : Cond.code (pg_y 27) (pg_code 27) (pg_maxL 27) (pg_ret 27) ∈ lw_tbl := List.mem_of_getElem? (i := 381) rfl
set_option maxRecDepth 100000 in
theorem pg_c28 : Cond.code (pg_y 28) (pg_code 28) (pg_maxL 28) (pg_ret 28) ∈ lw_tbl := List.mem_of_getElem? (i := 386) rfl
set_option maxRecDepth 100000 in
theorem pg_c29 : Cond.code (pg_y 29) (pg_code 29) (pg_maxL 29) (pg_ret 29) ∈ lw_tbl := List.mem_of_getElem? (i := 390) rfl
set_option maxRecDepth 100000 in
theorem pg_c30 : Cond.code (pg_y 30) (pg_code 30) (pg_maxL 30) (pg_ret 30) ∈ lw_tbl := List.mem_of_getElem? (i := 394) rfl
set_option maxRecDepth 100000 in
theorem pg_c31 : Cond.code (pg_y 31) (pg_code 31) (pg_maxL 31) (pg_ret 31) ∈ lw_tbl := List.mem_of_getElem? (i := 398) rfl
set_option maxRecDepth 100000 in
theorem pg_c32 : Cond.code (pg_y 32) (pg_code 32) (pg_maxL 32) (pg_ret 32) ∈ lw_tbl := List.mem_of_getElem? (i := 402) rfl
set_option maxRecDepth 100000 in
theorem pg_c33 : Cond.code (pg_y 33) (pg_code 33) (pg_maxL 33) (pg_ret 33) ∈ lw_tbl := List.mem_of_getElem? (i := 407) rfl
set_option maxRecDepth 100000 in
theorem pg_c34 : Cond.code (pg_y 34) (pg_code 34) (pg_maxL 34) (pg_ret 34) ∈ lw_tbl := List.mem_of_getElem? (i := 413) rfl
set_option maxRecDepth 100000 in
theorem pg_c35 : Cond.code (pg_y 35) (pg_code 35) (pg_maxL 35) (pg_ret 35) ∈ lw_tbl := List.mem_of_getElem? (i := 417) rfl
set_option maxRecDepth 100000 in
theorem pg_c36 : Cond.code (pg_y 36) (pg_code 36) (pg_maxL 36) (pg_ret 36) ∈ lw_tbl := List.mem_of_getElem? (i := 420) rfl
set_option maxRecDepth 100000 in
theorem pg_c37 : Cond.code (pg_y 37) (pg_code 37) (pg_maxL 37) (pg_ret 37) ∈ lw_tbl := List.mem_of_getElem? (i := 427) rfl
set_option maxRecDepth 100000 in
theorem pg_c38 : Cond.code (pg_y 38) (pg_code 38) (pg_maxL 38) (pg_ret 38) ∈ lw_tbl := List.mem_of_getElem? (i := 431) rfl
set_option maxRecDepth 100000 in
theorem pg_c39 : Cond.code (pg_y 39) (pg_code 39) (pg_maxL 39) (pg_ret 39) ∈ lw_tbl := List.mem_of_getElem? (i := 435) rfl
set_option maxRecDepth 100000 in
theorem pg_c40 : Cond.code (pg_y 40) (pg_code 40) (pg_maxL 40) (pg_ret 40) ∈ lw_tbl := List.mem_of_getElem? (i := 439) rfl
set_option maxRecDepth 100000 in
theorem pg_c41 : Cond.code (pg_y 41) (pg_code 41) (pg_maxL 41) (pg_ret 41) ∈ lw_tbl := List.mem_of_getElem? (i := 443) rfl
set_option maxRecDepth 100000 in
theorem pg_c42 : Cond.code (pg_y 42) (pg_code 42) (pg_maxL 42) (pg_ret 42) ∈ lw_tbl := List.mem_of_getElem? (i := 447) rfl
set_option maxRecDepth 100000 in
theorem pg_c43 : Cond.code (pg_y 43) (pg_code 43) (pg_maxL 43) (pg_ret 43) ∈ lw_tbl := List.mem_of_getElem? (i := 451) rfl
set_option maxRecDepth 100000 in
theorem pg_c44 : Cond.code (pg_y 44) (pg_code 44) (pg_maxL 44) (pg_ret 44) ∈ lw_tbl := List.mem_of_getElem? (i := 455) rfl
set_option maxRecDepth 100000 in
theorem pg_c45 : Cond.code (pg_y 45) (pg_code 45) (pg_maxL 45) (pg_ret 45) ∈ lw_tbl := List.mem_of_getElem? (i := 459) rfl
set_option maxRecDepth 100000 in
theorem pg_c46 : Cond.code (pg_y 46) (pg_code 46) (pg_maxL 46) (pg_ret 46) ∈ lw_tbl := List.mem_of_getElem? (i := 464) rfl
set_option maxRecDepth 100000 in
theorem pg_c47 : Cond.code (pg_y 47) (pg_code 47) (pg_maxL 47) (pg_ret 47) ∈ lw_tbl := List.mem_of_getElem? (i := 468) rfl
set_option maxRecDepth 100000 in
theorem pg_c48 : Cond.code (pg_y 48) (pg_code 48) (pg_maxL 48) (pg_ret 48) ∈ lw_tbl := List.mem_of_getElem? (i := 472) rfl
set_option maxRecDepth 100000 in
theorem pg_c49 : Cond.code (pg_y 49) (pg_code 49) (pg_maxL 49) (pg_ret 49) ∈ lw_tbl := List.mem_of_getElem? (i := 476) rfl
set_option maxRecDepth 100000 in
theorem pg_c50 : Cond.code (pg_y 50) (pg_code 50) (pg_maxL 50) (pg_ret 50) ∈ lw_tbl := List.mem_of_getElem? (i := 480) rfl
set_option maxRecDepth 100000 in
theorem pg_c51 : Cond.code (pg_y 51) (pg_code 51) (pg_maxL 51) (pg_ret 51) ∈ lw_tbl := List.mem_of_getElem? (i := 484) rfl
set_option maxRecDepth 100000 in
theorem pg_c52 : Cond.code (pg_y 52) (pg_code 52) (pg_maxL 52) (pg_ret 52) ∈ lw_tbl := List.mem_of_getElem? (i := 488) rfl
set_option maxRecDepth 100000 in
theorem pg_c53 : Cond.code (pg_y 53) (pg_code 53) (pg_maxL 53) (pg_ret 53) ∈ lw_tbl := List.mem_of_getElem? (i := 492) rfl
set_option maxRecDepth 100000 in
theorem pg_c54 : Cond.code (pg_y 54) (pg_code 54) (pg_maxL 54) (pg_ret 54) ∈ lw_tbl := List.mem_of_getElem? (i := 496) rfl
set_option maxRecDepth 100000 in
theorem pg_c55 : Cond.code (pg_y 55) (pg_code 55) (pg_maxL 55) (pg_ret 55) ∈ lw_tbl := List.mem_of_getElem? (i := 500) rfl
set_option maxRecDepth 100000 in
theorem pg_c56 : Cond.code (pg_y 56) (pg_code 56) (pg_maxL 56) (pg_ret 56) ∈ lw_tbl := List.mem_of_getElem? (i := 504) rfl
set_option maxRecDepth 100000 in
theorem pg_c57 : Cond.code (pg_y 57) (pg_code 57) (pg_maxL 57) (pg_ret 57) ∈ lw_tbl := List.mem_of_getElem? (i := 509) rfl
set_option maxRecDepth 100000 in
theorem pg_c58 : Cond.code (pg_y 58) (pg_code 58) (pg_maxL 58) (pg_ret 58) ∈ lw_tbl := List.mem_of_getElem? (i := 513) rfl
set_option maxRecDepth 100000 in
theorem pg_c59 : Cond.code (pg_y 59) (pg_code 59) (pg_maxL 59) (pg_ret 59) ∈ lw_tbl := List.mem_of_getElem? (i := 517) rfl
set_option maxRecDepth 100000 in
theorem pg_c60 : Cond.code (pg_y 60) (pg_code 60) (pg_maxL 60) (pg_ret 60) ∈ lw_tbl := List.mem_of_getElem? (i := 521) rfl
set_option maxRecDepth 100000 in
theorem pg_c61 : Cond.code (pg_y 61) (pg_code 61) (pg_maxL 61) (pg_ret 61) ∈ lw_tbl := List.mem_of_getElem? (i := 525) rfl
set_option maxRecDepth 100000 in
theorem pg_c62 : Cond.code (pg_y 62) (pg_code 62) (pg_maxL 62) (pg_ret 62) ∈ lw_tbl := List.mem_of_getElem? (i := 529) rfl
set_option maxRecDepth 100000 in
theorem pg_c63 : Cond.code (pg_y 63) (pg_code 63) (pg_maxL 63) (pg_ret 63) ∈ lw_tbl := List.mem_of_getElem? (i := 533) rfl
set_option maxRecDepth 100000 in
theorem pg_c64 : Cond.code (pg_y 64) (pg_code 64) (pg_maxL 64) (pg_ret 64) ∈ lw_tbl := List.mem_of_getElem? (i := 539) rfl
set_option maxRecDepth 100000 in
theorem pg_c65 : Cond.code (pg_y 65) (pg_code 65) (pg_maxL 65) (pg_ret 65) ∈ lw_tbl := List.mem_of_getElem? (i := 543) rfl
set_option maxRecDepth 100000 in
theorem pg_c66 : Cond.code (pg_y 66) (pg_code 66) (pg_maxL 66) (pg_ret 66) ∈ lw_tbl := List.mem_of_getElem? (i := 547) rfl
set_option maxRecDepth 100000 in
theorem pg_c67 : Cond.code (pg_y 67) (pg_code 67) (pg_maxL 67) (pg_ret 67) ∈ lw_tbl := List.mem_of_getElem? (i := 551) rfl
set_option maxRecDepth 100000 in
theorem pg_c68 : Cond.code (pg_y 68) (pg_code 68) (pg_maxL 68) (pg_ret 68) ∈ lw_tbl := List.mem_of_getElem? (i := 555) rfl
set_option maxRecDepth 100000 in
theorem pg_c69 : Cond.code (pg_y 69) (pg_code 69) (pg_maxL 69) (pg_ret 69) ∈ lw_tbl := List.mem_of_getElem? (i := 562) rfl
set_option maxRecDepth 100000 in
theorem pg_c70 : Cond.code (pg_y 70) (pg_code 70) (pg_maxL 70) (pg_ret 70) ∈ lw_tbl := List.mem_of_getElem? (i := 567) rfl
set_option maxRecDepth 100000 in
theorem pg_c71 : Cond.code (pg_y 71) (pg_code 71) (pg_maxL 71) (pg_ret 71) ∈ lw_tbl := List.mem_of_getElem? (i := 571) rfl
set_option maxRecDepth 100000 in
theorem pg_c72 : Cond.code (pg_y 72) (pg_code 72) (pg_maxL 72) (pg_ret 72) ∈ lw_tbl := List.mem_of_getElem? (i := 575) rfl
set_option maxRecDepth 100000 in
theorem pg_c73 : Cond.code (pg_y 73) (pg_code 73) (pg_maxL 73) (pg_ret 73) ∈ lw_tbl := List.mem_of_getElem? (i := 579) rfl
set_option maxRecDepth 100000 in
theorem pg_c74 : Cond.code (pg_y 74) (pg_code 74) (pg_maxL 74) (pg_ret 74) ∈ lw_tbl := List.mem_of_getElem? (i := 583) rfl
set_option maxRecDepth 100000 in
theorem pg_c75 : Cond.code (pg_y 75) (pg_code 75) (pg_maxL 75) (pg_ret 75) ∈ lw_tbl := List.mem_of_getElem? (i := 588) rfl
set_option maxRecDepth 100000 in
theorem pg_c76 : Cond.code (pg_y 76) (pg_code 76) (pg_maxL 76) (pg_ret 76) ∈ lw_tbl := List.mem_of_getElem? (i := 595) rfl
set_option maxRecDepth 100000 in
theorem pg_c77 : Cond.code (pg_y 77) (pg_code 77) (pg_maxL 77) (pg_ret 77) ∈ lw_tbl := List.mem_of_getElem? (i := 599) rfl
set_option maxRecDepth 100000 in
theorem pg_c78 : Cond.code (pg_y 78) (pg_code 78) (pg_maxL 78) (pg_ret 78) ∈ lw_tbl := List.mem_of_getElem? (i := 604) rfl
set_option maxRecDepth 100000 in
theorem pg_c79 : Cond.code (pg_y 79) (pg_code 79) (pg_maxL 79) (pg_ret 79) ∈ lw_tbl := List.mem_of_getElem? (i := 608) rfl
set_option maxRecDepth 100000 in
theorem pg_c80 : Cond.code (pg_y 80) (pg_code 80) (pg_maxL 80) (pg_ret 80) ∈ lw_tbl := List.mem_of_getElem? (i := 613) rfl
set_option maxRecDepth 100000 in
theorem pg_c81 : Cond.code (pg_y 81) (pg_code 81) (pg_maxL 81) (pg_ret 81) ∈ lw_tbl := List.mem_of_getElem? (i := 618) rfl
set_option maxRecDepth 100000 in
theorem pg_c82 : Cond.code (pg_y 82) (pg_code 82) (pg_maxL 82) (pg_ret 82) ∈ lw_tbl := List.mem_of_getElem? (i := 622) rfl
set_option maxRecDepth 100000 in
theorem pg_c83 : Cond.code (pg_y 83) (pg_code 83) (pg_maxL 83) (pg_ret 83) ∈ lw_tbl := List.mem_of_getElem? (i := 627) rfl
set_option maxRecDepth 100000 in
theorem pg_c84 : Cond.code (pg_y 84) (pg_code 84) (pg_maxL 84) (pg_ret 84) ∈ lw_tbl := List.mem_of_getElem? (i := 753) rfl
set_option maxRecDepth 100000 in
theorem pg_c85 : Cond.code (pg_y 85) (pg_code 85) (pg_maxL 85) (pg_ret 85) ∈ lw_tbl := List.mem_of_getElem? (i := 756) rfl
set_option maxRecDepth 100000 in
theorem pg_c86 : Cond.code (pg_y 86) (pg_code 86) (pg_maxL 86) (pg_ret 86) ∈ lw_tbl := List.mem_of_getElem? (i := 760) rfl
set_option maxRecDepth 100000 in
theorem pg_c87 : Cond.code (pg_y 87) (pg_code 87) (pg_maxL 87) (pg_ret 87) ∈ lw_tbl := List.mem_of_getElem? (i := 764) rfl
set_option maxRecDepth 100000 in
theorem pg_c88 : Cond.code (pg_y 88) (pg_code 88) (pg_maxL 88) (pg_ret 88) ∈ lw_tbl := List.mem_of_getElem? (i := 768) rfl
set_option maxRecDepth 100000 in
theorem pg_c89 : Cond.code (pg_y 89) (pg_code 89) (pg_maxL 89) (pg_ret 89) ∈ lw_tbl := List.mem_of_getElem? (i := 772) rfl
set_option maxRecDepth 100000 in
theorem pg_c90 : Cond.code (pg_y 90) (pg_code 90) (pg_maxL 90) (pg_ret 90) ∈ lw_tbl := List.mem_of_getElem? (i := 776) rfl
set_option maxRecDepth 100000 in
theorem pg_c91 : Cond.code (pg_y 91) (pg_code 91) (pg_maxL 91) (pg_ret 91) ∈ lw_tbl := List.mem_of_getElem? (i := 780) rfl
set_option maxRecDepth 100000 in
theorem pg_c92 : Cond.code (pg_y 92) (pg_code 92) (pg_maxL 92) (pg_ret 92) ∈ lw_tbl := List.mem_of_getElem? (i := 784) rfl
set_option maxRecDepth 100000 in
theorem pg_c93 : Cond.code (pg_y 93) (pg_code 93) (pg_maxL 93) (pg_ret 93) ∈ lw_tbl := List.mem_of_getElem? (i := 788) rfl
set_option maxRecDepth 100000 in
theorem pg_c94 : Cond.code (pg_y 94) (pg_code 94) (pg_maxL 94) (pg_ret 94) ∈ lw_tbl := List.mem_of_getElem? (i := 792) rfl
set_option maxRecDepth 100000 in
theorem pg_c95 : Cond.code (pg_y 95) (pg_code 95) (pg_maxL 95) (pg_ret 95) ∈ lw_tbl := List.mem_of_getElem? (i := 796) rfl
set_option maxRecDepth 100000 in
theorem pg_c96 : Cond.code (pg_y 96) (pg_code 96) (pg_maxL 96) (pg_ret 96) ∈ lw_tbl := List.mem_of_getElem? (i := 800) rfl
set_option maxRecDepth 100000 in
theorem pg_c97 : Cond.code (pg_y 97) (pg_code 97) (pg_maxL 97) (pg_ret 97) ∈ lw_tbl := List.mem_of_getElem? (i := 805) rfl
set_option maxRecDepth 100000 in
theorem pg_c98 : Cond.code (pg_y 98) (pg_code 98) (pg_maxL 98) (pg_ret 98) ∈ lw_tbl := List.mem_of_getElem? (i := 809) rfl
set_option maxRecDepth 100000 in
theorem pg_c99 : Cond.code (pg_y 99) (pg_code 99) (pg_maxL 99) (pg_ret 99) ∈ lw_tbl := List.mem_of_getElem? (i := 813) rfl
set_option maxRecDepth 100000 in
theorem pg_c100 : Cond.code (pg_y 100) (pg_code 100) (pg_maxL 100) (pg_ret 100) ∈ lw_tbl := List.mem_of_getElem? (i := 817) rfl
set_option maxRecDepth 100000 in
theorem pg_c101 : Cond.code (pg_y 101) (pg_code 101) (pg_maxL 101) (pg_ret 101) ∈ lw_tbl := List.mem_of_getElem? (i := 821) rfl
set_option maxRecDepth 100000 in
theorem pg_c102 : Cond.code (pg_y 102) (pg_code 102) (pg_maxL 102) (pg_ret 102) ∈ lw_tbl := List.mem_of_getElem? (i := 825) rfl
set_option maxRecDepth 100000 in
theorem pg_c103 : Cond.code (pg_y 103) (pg_code 103) (pg_maxL 103) (pg_ret 103) ∈ lw_tbl := List.mem_of_getElem? (i := 829) rfl
set_option maxRecDepth 100000 in
theorem pg_c104 : Cond.code (pg_y 104) (pg_code 104) (pg_maxL 104) (pg_ret 104) ∈ lw_tbl := List.mem_of_getElem? (i := 833) rfl
set_option maxRecDepth 100000 in
theorem pg_c105 : Cond.code (pg_y 105) (pg_code 105) (pg_maxL 105) (pg_ret 105) ∈ lw_tbl := List.mem_of_getElem? (i := 837) rfl
set_option maxRecDepth 100000 in
theorem pg_c106 : Cond.code (pg_y 106) (pg_code 106) (pg_maxL 106) (pg_ret 106) ∈ lw_tbl := List.mem_of_getElem? (i := 841) rfl
set_option maxRecDepth 100000 in
theorem pg_c107 : Cond.code (pg_y 107) (pg_code 107) (pg_maxL 107) (pg_ret 107) ∈ lw_tbl := List.mem_of_getElem? (i := 845) rfl
set_option maxRecDepth 100000 in
theorem pg_c108 : Cond.code (pg_y 108) (pg_code 108) (pg_maxL 108) (pg_ret 108) ∈ lw_tbl := List.mem_of_getElem? (i := 849) rfl
set_option maxRecDepth 100000 in
theorem pg_c109 : Cond.code (pg_y 109) (pg_code 109) (pg_maxL 109) (pg_ret 109) ∈ lw_tbl := List.mem_of_getElem? (i := 853) rfl
set_option maxRecDepth 100000 in
theorem pg_c110 : Cond.code (pg_y 110) (pg_code 110) (pg_maxL 110) (pg_ret 110) ∈ lw_tbl := List.mem_of_getElem? (i := 857) rfl
set_option maxRecDepth 100000 in
theorem pg_c111 : Cond.code (pg_y 111) (pg_code 111) (pg_maxL 111) (pg_ret 111) ∈ lw_tbl := List.mem_of_getElem? (i := 861) rfl
set_option maxRecDepth 100000 in
theorem pg_c112 : Cond.code (pg_y 112) (pg_code 112) (pg_maxL 112) (pg_ret 112) ∈ lw_tbl := List.mem_of_getElem? (i := 865) rfl
set_option maxRecDepth 100000 in
theorem pg_c113 : Cond.code (pg_y 113) (pg_code 113) (pg_maxL 113) (pg_ret 113) ∈ lw_tbl := List.mem_of_getElem? (i := 869) rfl
set_option maxRecDepth 100000 in
theorem pg_c114 : Cond.code (pg_y 114) (pg_code 114) (pg_maxL 114) (pg_ret 114) ∈ lw_tbl := List.mem_of_getElem? (i := 873) rfl
set_option maxRecDepth 100000 in
theorem pg_c115 : Cond.code (pg_y 115) (pg_code 115) (pg_maxL 115) (pg_ret 115) ∈ lw_tbl := List.mem_of_getElem? (i := 877) rfl
set_option maxRecDepth 100000 in
theorem pg_c116 : Cond.code (pg_y 116) (pg_code 116) (pg_maxL 116) (pg_ret 116) ∈ lw_tbl := List.mem_of_getElem? (i := 881) rfl
set_option maxRecDepth 100000 in
theorem pg_c117 : Cond.code (pg_y 117) (pg_code 117) (pg_maxL 117) (pg_ret 117) ∈ lw_tbl := List.mem_of_getElem? (i := 885) rfl
set_option maxRecDepth 100000 in
theorem pg_c118 : Cond.code (pg_y 118) (pg_code 118) (pg_maxL 118) (pg_ret 118) ∈ lw_tbl := List.mem_of_getElem? (i := 889) rfl
set_option maxRecDepth 100000 in
theorem pg_c119 : Cond.code (pg_y 119) (pg_code 119) (pg_maxL 119) (pg_ret 119) ∈ lw_tbl := List.mem_of_getElem? (i := 893) rfl
set_option maxRecDepth 100000 in
theorem pg_c120 : Cond.code (pg_y 120) (pg_code 120) (pg_maxL 120) (pg_ret 120) ∈ lw_tbl := List.mem_of_getElem? (i := 897) rfl
set_option maxRecDepth 100000 in
theorem pg_c121 : Cond.code (pg_y 121) (pg_code 121) (pg_maxL 121) (pg_ret 121) ∈ lw_tbl := List.mem_of_getElem? (i := 901) rfl
set_option maxRecDepth 100000 in
theorem pg_c122 : Cond.code (pg_y 122) (pg_code 122) (pg_maxL 122) (pg_ret 122) ∈ lw_tbl := List.mem_of_getElem? (i := 905) rfl
set_option maxRecDepth 100000 in
theorem pg_c123 : Cond.code (pg_y 123) (pg_code 123) (pg_maxL 123) (pg_ret 123) ∈ lw_tbl := List.mem_of_getElem? (i := 909) rfl
set_option maxRecDepth 100000 in
theorem pg_c124 : Cond.code (pg_y 124) (pg_code 124) (pg_maxL 124) (pg_ret 124) ∈ lw_tbl := List.mem_of_getElem? (i := 913) rfl
set_option maxRecDepth 100000 in
theorem pg_c125 : Cond.code (pg_y 125) (pg_code 125) (pg_maxL 125) (pg_ret 125) ∈ lw_tbl := List.mem_of_getElem? (i := 917) rfl
set_option maxRecDepth 100000 in
theorem pg_c126 : Cond.code (pg_y 126) (pg_code 126) (pg_maxL 126) (pg_ret 126) ∈ lw_tbl := List.mem_of_getElem? (i := 921) rfl
set_option maxRecDepth 100000 in
theorem pg_c127 : Cond.code (pg_y 127) (pg_code 127) (pg_maxL 127) (pg_ret 127) ∈ lw_tbl := List.mem_of_getElem? (i := 925) rfl
set_option maxRecDepth 100000 in
theorem pg_c128 : Cond.code (pg_y 128) (pg_code 128) (pg_maxL 128) (pg_ret 128) ∈ lw_tbl := List.mem_of_getElem? (i := 929) rfl
set_option maxRecDepth 100000 in
theorem pg_c129 : Cond.code (pg_y 129) (pg_code 129) (pg_maxL 129) (pg_ret 129) ∈ lw_tbl := List.mem_of_getElem? (i := 933) rfl
set_option maxRecDepth 100000 in
theorem pg_c130 : Cond.code (pg_y 130) (pg_code 130) (pg_maxL 130) (pg_ret 130) ∈ lw_tbl := List.mem_of_getElem? (i := 937) rfl
set_option maxRecDepth 100000 in
theorem pg_c131 : Cond.code (pg_y 131) (pg_code 131) (pg_maxL 131) (pg_ret 131) ∈ lw_tbl := List.mem_of_getElem? (i := 941) rfl
def pg_Pc (z : Nat) : Prop := Cond.code (pg_y z) (pg_code z) (pg_maxL z) (pg_ret z) ∈ lw_tbl
theorem pg_q0 : ∀ z, z < 0 → pg_Pc z := fun z h => absurd h (Nat.not_lt_zero z)
theorem pg_q1 : ∀ z, z < 1 → pg_Pc z := lt_s (p := pg_Pc) pg_q0 pg_c0
theorem pg_q2 : ∀ z, z < 2 → pg_Pc z := lt_s (p := pg_Pc) pg_q1 pg_c1
theorem pg_q3 : ∀ z, z < 3 → pg_Pc z := lt_s (p := pg_Pc) pg_q2 pg_c2
theorem pg_q4 : ∀ z, z < 4 → pg_Pc z := lt_s (p := pg_Pc) pg_q3 pg_c3
theorem pg_q5 : ∀ z, z < 5 → pg_Pc z := lt_s (p := pg_Pc) pg_q4 pg_c4
theorem pg_q6 : ∀ z, z < 6 → pg_Pc z := lt_s (p := pg_Pc) pg_q5 pg_c5
theorem pg_q7 : ∀ z, z < 7 → pg_Pc z := lt_s (p := pg_Pc) pg_q6 pg_c6
theorem pg_q8 : ∀ z, z < 8 → pg_Pc z := lt_s (p := pg_Pc) pg_q7 pg_c7
theorem pg_q9 : ∀ z, z < 9 → pg_Pc z := lt_s (p := pg_Pc) pg_q8 pg_c8
theorem pg_q10 : ∀ z, z < 10 → pg_Pc z := lt_s (p := pg_Pc) pg_q9 pg_c9
theorem pg_q11 : ∀ z, z < 11 → pg_Pc z := lt_s (p := pg_Pc) pg_q10 pg_c10
theorem pg_q12 : ∀ z, z < 12 → pg_Pc z := lt_s (p := pg_Pc) pg_q11 pg_c11
theorem pg_q13 : ∀ z, z < 13 → pg_Pc z := lt_s (p := pg_Pc) pg_q12 pg_c12
theorem pg_q14 : ∀ z, z < 14 → pg_Pc z := lt_s (p := pg_Pc) pg_q13 pg_c13
theorem pg_q15 : ∀ z, z < 15 → pg_Pc z := lt_s (p := pg_Pc) pg_q14 pg_c14
theorem pg_q16 : ∀ z, z < 16 → pg_Pc z := lt_s (p := pg_Pc) pg_q15 pg_c15
theorem pg_q17 : ∀ z, z < 17 → pg_Pc z := lt_s (p := pg_Pc) pg_q16 pg_c16
theorem pg_q18 : ∀ z, z < 18 → pg_Pc z := lt_s (p := pg_Pc) pg_q17 pg_c17
theorem pg_q19 : ∀ z, z < 19 → pg_Pc z := lt_s (p := pg_Pc) pg_q18 pg_c18
theorem pg_q20 : ∀ z, z < 20 → pg_Pc z := lt_s (p := pg_Pc) pg_q19 pg_c19
theorem pg_q21 : ∀ z, z < 21 → pg_Pc z := lt_s (p := pg_Pc) pg_q20 pg_c20
theorem pg_q22 : ∀ z, z < 22 → pg_Pc z := lt_s (p := pg_Pc) pg_q21 pg_c21
theorem pg_q23 : ∀ z, z < 23 → pg_Pc z := lt_s (p := pg_Pc) pg_q22 pg_c22
theorem pg_q24 : ∀ z, z < 24 → pg_Pc z := lt_s (p := pg_Pc) pg_q23 pg_c23
theorem pg_q25 : ∀ z, z < 25 → pg_Pc z := lt_s (p := pg_Pc) pg_q24 pg_c24
theorem pg_q26 : ∀ z, z < 26 → pg_Pc z := lt_s (p := pg_Pc) pg_q25 pg_c25
theorem pg_q27 : ∀ z, z < 27 → pg_Pc z := lt_s (p := pg_Pc) pg_q26 pg_c26
theorem pg_q28 : ∀ z, z < 28 → pg_Pc z := lt_s (p := pg_Pc) pg_q27 pg_c27
theorem pg_q29 : ∀ z, z < 29 → pg_Pc z := lt_s (p := pg_Pc) pg_q28 pg_c28
theorem pg_q30 : ∀ z, z < 30 → pg_Pc z := lt_s (p := pg_Pc) pg_q29 pg_c29
theorem pg_q31 : ∀ z, z < 31 → pg_Pc z := lt_s (p := pg_Pc) pg_q30 pg_c30
theorem pg_q32 : ∀ z, z < 32 → pg_Pc z := lt_s (p := pg_Pc) pg_q31 pg_c31
theorem pg_q33 : ∀ z, z < 33 → pg_Pc z := lt_s (p := pg_Pc) pg_q32 pg_c32
theorem pg_q34 : ∀ z, z < 34 → pg_Pc z := lt_s (p := pg_Pc) pg_q33 pg_c33
theorem pg_q35 : ∀ z, z < 35 → pg_Pc z := lt_s (p := pg_Pc) pg_q34 pg_c34
theorem pg_q36 : ∀ z, z < 36 → pg_Pc z := lt_s (p := pg_Pc) pg_q35 pg_c35
theorem pg_q37 : ∀ z, z < 37 → pg_Pc z := lt_s (p := pg_Pc) pg_q36 pg_c36
theorem pg_q38 : ∀ z, z < 38 → pg_Pc z := lt_s (p := pg_Pc) pg_q37 pg_c37
theorem pg_q39 : ∀ z, z < 39 → pg_Pc z := lt_s (p := pg_Pc) pg_q38 pg_c38
theorem pg_q40 : ∀ z, z < 40 → pg_Pc z := lt_s (p := pg_Pc) pg_q39 pg_c39
theorem pg_q41 : ∀ z, z < 41 → pg_Pc z := lt_s (p := pg_Pc) pg_q40 pg_c40
theorem pg_q42 : ∀ z, z < 42 → pg_Pc z := lt_s (p := pg_Pc) pg_q41 pg_c41
theorem pg_q43 : ∀ z, z < 43 → pg_Pc z := lt_s (p := pg_Pc) pg_q42 pg_c42
theorem pg_q44 : ∀ z, z < 44 → pg_Pc z := lt_s (p := pg_Pc) pg_q43 pg_c43
theorem pg_q45 : ∀ z, z < 45 → pg_Pc z := lt_s (p := pg_Pc) pg_q44 pg_c44
theorem pg_q46 : ∀ z, z < 46 → pg_Pc z := lt_s (p := pg_Pc) pg_q45 pg_c45
theorem pg_q47 : ∀ z, z < 47 → pg_Pc z := lt_s (p := pg_Pc) pg_q46 pg_c46
theorem pg_q48 : ∀ z, z < 48 → pg_Pc z := lt_s (p := pg_Pc) pg_q47 pg_c47
theorem pg_q49 : ∀ z, z < 49 → pg_Pc z := lt_s (p := pg_Pc) pg_q48 pg_c48
theorem pg_q50 : ∀ z, z < 50 → pg_Pc z := lt_s (p := pg_Pc) pg_q49 pg_c49
theorem pg_q51 : ∀ z, z < 51 → pg_Pc z := lt_s (p := pg_Pc) pg_q50 pg_c50
theorem pg_q52 : ∀ z, z < 52 → pg_Pc z := lt_s (p := pg_Pc) pg_q51 pg_c51
theorem pg_q53 : ∀ z, z < 53 → pg_Pc z := lt_s (p := pg_Pc) pg_q52 pg_c52
theorem pg_q54 : ∀ z, z < 54 → pg_Pc z := lt_s (p := pg_Pc) pg_q53 pg_c53
theorem pg_q55 : ∀ z, z < 55 → pg_Pc z := lt_s (p := pg_Pc) pg_q54 pg_c54
theorem pg_q56 : ∀ z, z < 56 → pg_Pc z := lt_s (p := pg_Pc) pg_q55 pg_c55
theorem pg_q57 : ∀ z, z < 57 → pg_Pc z := lt_s (p := pg_Pc) pg_q56 pg_c56
theorem pg_q58 : ∀ z, z < 58 → pg_Pc z := lt_s (p := pg_Pc) pg_q57 pg_c57
theorem pg_q59 : ∀ z, z < 59 → pg_Pc z := lt_s (p := pg_Pc) pg_q58 pg_c58
theorem pg_q60 : ∀ z, z < 60 → pg_Pc z := lt_s (p := pg_Pc) pg_q59 pg_c59
theorem pg_q61 : ∀ z, z < 61 → pg_Pc z := lt_s (p := pg_Pc) pg_q60 pg_c60
theorem pg_q62 : ∀ z, z < 62 → pg_Pc z := lt_s (p := pg_Pc) pg_q61 pg_c61
theorem pg_q63 : ∀ z, z < 63 → pg_Pc z := lt_s (p := pg_Pc) pg_q62 pg_c62
theorem pg_q64 : ∀ z, z < 64 → pg_Pc z := lt_s (p := pg_Pc) pg_q63 pg_c63
theorem pg_q65 : ∀ z, z < 65 → pg_Pc z := lt_s (p := pg_Pc) pg_q64 pg_c64
theorem pg_q66 : ∀ z, z < 66 → pg_Pc z := lt_s (p := pg_Pc) pg_q65 pg_c65
theorem pg_q67 : ∀ z, z < 67 → pg_Pc z := lt_s (p := pg_Pc) pg_q66 pg_c66
theorem pg_q68 : ∀ z, z < 68 → pg_Pc z := lt_s (p := pg_Pc) pg_q67 pg_c67
theorem pg_q69 : ∀ z, z < 69 → pg_Pc z := lt_s (p := pg_Pc) pg_q68 pg_c68
theorem pg_q70 : ∀ z, z < 70 → pg_Pc z := lt_s (p := pg_Pc) pg_q69 pg_c69
theorem pg_q71 : ∀ z, z < 71 → pg_Pc z := lt_s (p := pg_Pc) pg_q70 pg_c70
theorem pg_q72 : ∀ z, z < 72 → pg_Pc z := lt_s (p := pg_Pc) pg_q71 pg_c71
theorem pg_q73 : ∀ z, z < 73 → pg_Pc z := lt_s (p := pg_Pc) pg_q72 pg_c72
theorem pg_q74 : ∀ z, z < 74 → pg_Pc z := lt_s (p := pg_Pc) pg_q73 pg_c73
theorem pg_q75 : ∀ z, z < 75 → pg_Pc z := lt_s (p := pg_Pc) pg_q74 pg_c74
theorem pg_q76 : ∀ z, z < 76 → pg_Pc z := lt_s (p := pg_Pc) pg_q75 pg_c75
theorem pg_q77 : ∀ z, z < 77 → pg_Pc z := lt_s (p := pg_Pc) pg_q76 pg_c76
theorem pg_q78 : ∀ z, z < 78 → pg_Pc z := lt_s (p := pg_Pc) pg_q77 pg_c77
theorem pg_q79 : ∀ z, z < 79 → pg_Pc z := lt_s (p := pg_Pc) pg_q78 pg_c78
theorem pg_q80 : ∀ z, z < 80 → pg_Pc z := lt_s (p := pg_Pc) pg_q79 pg_c79
theorem pg_q81 : ∀ z, z < 81 → pg_Pc z := lt_s (p := pg_Pc) pg_q80 pg_c80
theorem pg_q82 : ∀ z, z < 82 → pg_Pc z := lt_s (p := pg_Pc) pg_q81 pg_c81
theorem pg_q83 : ∀ z, z < 83 → pg_Pc z := lt_s (p := pg_Pc) pg_q82 pg_c82
theorem pg_q84 : ∀ z, z < 84 → pg_Pc z := lt_s (p := pg_Pc) pg_q83 pg_c83
theorem pg_q85 : ∀ z, z < 85 → pg_Pc z := lt_s (p := pg_Pc) pg_q84 pg_c84
theorem pg_q86 : ∀ z, z < 86 → pg_Pc z := lt_s (p := pg_Pc) pg_q85 pg_c85
theorem pg_q87 : ∀ z, z < 87 → pg_Pc z := lt_s (p := pg_Pc) pg_q86 pg_c86
theorem pg_q88 : ∀ z, z < 88 → pg_Pc z := lt_s (p := pg_Pc) pg_q87 pg_c87
theorem pg_q89 : ∀ z, z < 89 → pg_Pc z := lt_s (p := pg_Pc) pg_q88 pg_c88
theorem pg_q90 : ∀ z, z < 90 → pg_Pc z := lt_s (p := pg_Pc) pg_q89 pg_c89
theorem pg_q91 : ∀ z, z < 91 → pg_Pc z := lt_s (p := pg_Pc) pg_q90 pg_c90
theorem pg_q92 : ∀ z, z < 92 → pg_Pc z := lt_s (p := pg_Pc) pg_q91 pg_c91
theorem pg_q93 : ∀ z, z < 93 → pg_Pc z := lt_s (p := pg_Pc) pg_q92 pg_c92
theorem pg_q94 : ∀ z, z < 94 → pg_Pc z := lt_s (p := pg_Pc) pg_q93 pg_c93
theorem pg_q95 : ∀ z, z < 95 → pg_Pc z := lt_s (p := pg_Pc) pg_q94 pg_c94
theorem pg_q96 : ∀ z, z < 96 → pg_Pc z := lt_s (p := pg_Pc) pg_q95 pg_c95
theorem pg_q97 : ∀ z, z < 97 → pg_Pc z := lt_s (p := pg_Pc) pg_q96 pg_c96
theorem pg_q98 : ∀ z, z < 98 → pg_Pc z := lt_s (p := pg_Pc) pg_q97 pg_c97
theorem pg_q99 : ∀ z, z < 99 → pg_Pc z := lt_s (p := pg_Pc) pg_q98 pg_c98
theorem pg_q100 : ∀ z, z < 100 → pg_Pc z := lt_s (p := pg_Pc) pg_q99 pg_c99
theorem pg_q101 : ∀ z, z < 101 → pg_Pc z := lt_s (p := pg_Pc) pg_q100 pg_c100
theorem pg_q102 : ∀ z, z < 102 → pg_Pc z := lt_s (p := pg_Pc) pg_q101 pg_c101
theorem pg_q103 : ∀ z, z < 103 → pg_Pc z := lt_s (p := pg_Pc) pg_q102 pg_c102
theorem pg_q104 : ∀ z, z < 104 → pg_Pc z := lt_s (p := pg_Pc) pg_q103 pg_c103
theorem pg_q105 : ∀ z, z < 105 → pg_Pc z := lt_s (p := pg_Pc) pg_q104 pg_c104
theorem pg_q106 : ∀ z, z < 106 → pg_Pc z := lt_s (p := pg_Pc) pg_q105 pg_c105
theorem pg_q107 : ∀ z, z < 107 → pg_Pc z := lt_s (p := pg_Pc) pg_q106 pg_c106
theorem pg_q108 : ∀ z, z < 108 → pg_Pc z := lt_s (p := pg_Pc) pg_q107 pg_c107
theorem pg_q109 : ∀ z, z < 109 → pg_Pc z := lt_s (p := pg_Pc) pg_q108 pg_c108
theorem pg_q110 : ∀ z, z < 110 → pg_Pc z := lt_s (p := pg_Pc) pg_q109 pg_c109
theorem pg_q111 : ∀ z, z < 111 → pg_Pc z := lt_s (p := pg_Pc) pg_q110 pg_c110
theorem pg_q112 : ∀ z, z < 112 → pg_Pc z := lt_s (p := pg_Pc) pg_q111 pg_c111
theorem pg_q113 : ∀ z, z < 113 → pg_Pc z := lt_s (p := pg_Pc) pg_q112 pg_c112
theorem pg_q114 : ∀ z, z < 114 → pg_Pc z := lt_s (p := pg_Pc) pg_q113 pg_c113
theorem pg_q115 : ∀ z, z < 115 → pg_Pc z := lt_s (p := pg_Pc) pg_q114 pg_c114
theorem pg_q116 : ∀ z, z < 116 → pg_Pc z := lt_s (p := pg_Pc) pg_q115 pg_c115
theorem pg_q117 : ∀ z, z < 117 → pg_Pc z := lt_s (p := pg_Pc) pg_q116 pg_c116
theorem pg_q118 : ∀ z, z < 118 → pg_Pc z := lt_s (p := pg_Pc) pg_q117 pg_c117
theorem pg_q119 : ∀ z, z < 119 → pg_Pc z := lt_s (p := pg_Pc) pg_q118 pg_c118
theorem pg_q120 : ∀ z, z < 120 → pg_Pc z := lt_s (p := pg_Pc) pg_q119 pg_c119
theorem pg_q121 : ∀ z, z < 121 → pg_Pc z := lt_s (p := pg_Pc) pg_q120 pg_c120
theorem pg_q122 : ∀ z, z < 122 → pg_Pc z := lt_s (p := pg_Pc) pg_q121 pg_c121
theorem pg_q123 : ∀ z, z < 123 → pg_Pc z := lt_s (p := pg_Pc) pg_q122 pg_c122
theorem pg_q124 : ∀ z, z < 124 → pg_Pc z := lt_s (p := pg_Pc) pg_q123 pg_c123
theorem pg_q125 : ∀ z, z < 125 → pg_Pc z := lt_s (p := pg_Pc) pg_q124 pg_c124
theorem pg_q126 : ∀ z, z < 126 → pg_Pc z := lt_s (p := pg_Pc) pg_q125 pg_c125
theorem pg_q127 : ∀ z, z < 127 → pg_Pc z := lt_s (p := pg_Pc) pg_q126 pg_c126
theorem pg_q128 : ∀ z, z < 128 → pg_Pc z := lt_s (p := pg_Pc) pg_q127 pg_c127
theorem pg_q129 : ∀ z, z < 129 → pg_Pc z := lt_s (p := pg_Pc) pg_q128 pg_c128
theorem pg_q130 : ∀ z, z < 130 → pg_Pc z := lt_s (p := pg_Pc) pg_q129 pg_c129
theorem pg_q131 : ∀ z, z < 131 → pg_Pc z := lt_s (p := pg_Pc) pg_q130 pg_c130
theorem pg_q132 : ∀ z, z < 132 → pg_Pc z := lt_s (p := pg_Pc) pg_q131 pg_c131
theorem pg_call : ∀ z, z < pg_num → Cond.code (pg_y z) (pg_code z) (pg_maxL z) (pg_ret z) ∈ lw_tbl := pg_q132
def pg_zchk (z : Nat) : Bool := pg_is (pg_zi z).2.1 (if pg_mk z = 2 then .static (pg_y z) else .instanceMethod (pg_y z)) && (pg_mk z != 0 || pg_is (pg_zi z).2.2.1 (.selects (pg_cn (pg_own z)) (pg_y z) (pg_y z))) && pg_is (pg_zi z).2.2.2 (.initialized (pg_y z).cls)
theorem pg_zall : (List.range pg_num).all pg_zchk = true := by decide +kernel
def pg_dchk (z : Nat) : Bool := plainName (pg_y z).cls && decide ((pg_y z).cls = pg_cn (pg_own z)) && decide ((pg_y z).cls ≠ "java/lang/invoke/MethodHandle") && decide ((pg_y z).cls ≠ "java/lang/invoke/VarHandle") && decide ((parseMethodDescriptor (pg_y z).desc).map (fun d => d.parameters.length) = some (pg_np z)) && decide (pg_maxL z ≤ 41) && (pg_mk z != 1 || (decide ((pg_y z).name = "<init>") && decide (pg_rk z = 0))) && decide (pg_rk z ≤ 2) && (pg_mk z != 0 || decide (pg_own z < 7)) && decide (pg_mk z ≤ 2)
theorem pg_dall : (List.range (pg_num + 1)).all pg_dchk = true := by decide +kernel
theorem pg_d {z : Nat} (h : z ≤ pg_num) : plainName (pg_y z).cls = true ∧ (pg_y z).cls = pg_cn (pg_own z) ∧ (pg_y z).cls ≠ "java/lang/invoke/MethodHandle" ∧ (pg_y z).cls ≠ "java/lang/invoke/VarHandle" ∧ (parseMethodDescriptor (pg_y z).desc).map (fun d => d.parameters.length) = some (pg_np z) ∧ pg_maxL z ≤ 41 ∧ (pg_mk z = 1 → (pg_y z).name = "<init>" ∧ pg_rk z = 0) ∧ pg_rk z ≤ 2 ∧ (pg_mk z = 0 → pg_own z < 7) := by
  have h2 := List.all_eq_true.mp pg_dall z (List.mem_range.mpr (Nat.lt_succ_of_le h))
  simp only [pg_dchk, Bool.and_eq_true, Bool.or_eq_true, decide_eq_true_eq, bne_iff_ne] at h2
  obtain ⟨⟨⟨⟨⟨⟨⟨⟨⟨a1, a2⟩, a3⟩, a4⟩, a5⟩, a6⟩, a7⟩, a8⟩, a9⟩, a10⟩ := h2
  exact ⟨a1, a2, a3, a4, a5, a6, fun e => a7.resolve_left (fun n => n e), a8, fun e => a9.resolve_left (fun n => n e)⟩
theorem pg_plain {z : Nat} (h : z < pg_num) : plainName (pg_y z).cls = true := (pg_d (Nat.le_of_lt h)).1
theorem pg_own_ok {z : Nat} (h : z ≤ pg_num) : (pg_y z).cls = pg_cn (pg_own z) := (pg_d h).2.1
theorem pg_desc {z : Nat} (h : z < pg_num) : (pg_y z).cls ≠ "java/lang/invoke/MethodHandle" ∧ (pg_y z).cls ≠ "java/lang/invoke/VarHandle" ∧ (parseMethodDescriptor (pg_y z).desc).map (fun d => d.parameters.length) = some (pg_np z) := ⟨(pg_d (Nat.le_of_lt h)).2.2.1, (pg_d (Nat.le_of_lt h)).2.2.2.1, (pg_d (Nat.le_of_lt h)).2.2.2.2.1⟩
theorem pg_maxL_ok {z : Nat} (h : z < pg_num) : pg_maxL z ≤ 41 := (pg_d (Nat.le_of_lt h)).2.2.2.2.2.1
theorem pg_ini_ok {y : Nat} (hy : y ≤ pg_num) (h : pg_ini y = true) : (pg_y y).name = "<init>" := ((pg_d hy).2.2.2.2.2.2.1 (by simpa [pg_ini] using h)).1
theorem pg_rk_ok (y : Nat) : (pg_rk y = 0 → pg_ret y = none) ∧ (pg_rk y = 1 → pg_ret y = some .int) ∧ (pg_rk y = 2 → pg_ret y = some .boolean) := ⟨fun h => by unfold pg_ret; rw [h]; rfl, fun h => by unfold pg_ret; rw [h]; rfl, fun h => by unfold pg_ret; rw [h]; rfl⟩
theorem pg_zok {z : Nat} (h : z < pg_num) : Cond.code (pg_y z) (pg_code z) (pg_maxL z) (pg_ret z) ∈ pg_words ∧ (if pg_mk z = 2 then Cond.static (pg_y z) else Cond.instanceMethod (pg_y z)) ∈ pg_words ∧ (pg_mk z = 0 → Cond.selects (pg_cn (pg_own z)) (pg_y z) (pg_y z) ∈ pg_words) ∧ Cond.initialized (pg_y z).cls ∈ pg_words := by
  have h2 := List.all_eq_true.mp pg_zall z (List.mem_range.mpr h)
  simp only [pg_zchk, Bool.and_eq_true, Bool.or_eq_true, bne_iff_ne] at h2
  obtain ⟨⟨a2, a3⟩, a4⟩ := h2
  exact ⟨List.mem_filter.mpr ⟨pg_call z h, rfl⟩, pg_is_mem a2, fun e => pg_is_mem (a3.resolve_left (fun n => n e)), pg_is_mem a4⟩
theorem pg_wz {z : Nat} (h : z < pg_num) : Cond.code (pg_y z) (pg_code z) (pg_maxL z) (pg_ret z) ∈ pg_words := (pg_zok h).1
theorem pg_obj_ok {z : Nat} (h : z < pg_num) (hk : pg_mk z = 0) : ∃ (T : u_T) (N : Nat), pg_cl[pg_own z]? = some (pg_cn (pg_own z), T, N) := ⟨_, _, (pg_cls ((pg_d (Nat.le_of_lt h)).2.2.2.2.2.2.2.2 hk)).1⟩
def pg_spy (z : Nat) : MethodName := if z = 1000 then objectInit else if z = 1001 then Lib.Math.max.name else if z = 1002 then Lib.Math.min.name else arraycopyName
def pg_nest : List Cond := [.methodLinkNest "TwigMerge" 84 ⟨"TwigMerge$Forest", "sameTwig", "(LTwigMerge$Forest;ILTwigMerge$Forest;II)Z"⟩ "TwigMerge", .methodLinkNest "TwigMerge$Partners" 72 ⟨"TwigMerge$Forest", "sameTwig", "(LTwigMerge$Forest;ILTwigMerge$Forest;II)Z"⟩ "TwigMerge"]
theorem pg_nest_in : ∀ w ∈ pg_nest, w ∈ lw_tbl := by
  intro w hw
  simp only [pg_nest, List.mem_cons, List.not_mem_nil, or_false] at hw
  rcases hw with rfl | rfl
  · exact List.mem_of_getElem? (i := 339) (by decide +kernel)
  · exact List.mem_of_getElem? (i := 382) (by decide +kernel)
def pg_mchk (q : Nat × Nat × Nat × Nat × Nat) : Bool := if q.2.2.1 < 1000 then (if q.2.2.2.2 = 0 then pg_is q.2.2.2.1 (.methodLink (pg_cn q.1) q.2.1 (pg_y q.2.2.1)) else (pg_mk q.2.2.1 == 2 && decide (Cond.methodLinkNest (pg_cn q.1) q.2.1 (pg_y q.2.2.1) (pg_cn 0) ∈ pg_nest))) else pg_is q.2.2.2.1 (.methodLink (pg_cn q.1) q.2.1 (pg_spy q.2.2.1))
theorem pg_mall : pg_mthL.all pg_mchk = true := by decide +kernel
theorem pg_mth_ok {own idx z : Nat} (h : pg_mth own idx = some z) : (z < 1000 → Cond.methodLink (pg_cn own) idx (pg_y z) ∈ pg_words ∨ (pg_mk z = 2 ∧ Cond.methodLinkNest (pg_cn own) idx (pg_y z) (pg_cn 0) ∈ pg_nest)) ∧ (¬ z < 1000 → Cond.methodLink (pg_cn own) idx (pg_spy z) ∈ pg_words) := by
  unfold pg_mth at h
  obtain ⟨q, hq, he⟩ := Option.map_eq_some_iff.mp h
  have h1 := List.find?_some hq
  have h2 := List.all_eq_true.mp pg_mall q (List.mem_of_find?_eq_some hq)
  simp only [Bool.and_eq_true, beq_iff_eq] at h1
  obtain ⟨rfl, rfl⟩ := h1
  subst he
  unfold pg_mchk at h2
  refine ⟨fun hz => ?_, fun hz => ?_⟩
  · rw [if_pos hz] at h2
    split at h2
    · exact Or.inl (pg_is_mem h2)
    · simp only [Bool.and_eq_true, beq_iff_eq, decide_eq_true_eq] at h2
      exact Or.inr h2
  · rw [if_neg hz] at h2
    exact pg_is_mem h2
theorem pg_num_lt : pg_num < 1000 := by decide
theorem pg_callV {own idx z : Nat} (hm : pg_mth own idx = some z) (hz : z < pg_num) (hk : pg_mk z = 0) : Cond.methodLink (pg_cn own) idx (pg_y z) ∈ pg_words ∧ Cond.instanceMethod (pg_y z) ∈ pg_words ∧ Cond.selects (pg_cn (pg_own z)) (pg_y z) (pg_y z) ∈ pg_words ∧ Cond.initialized (pg_cn (pg_own z)) ∈ pg_words := by
  obtain ⟨a1, a2, a3, a4⟩ := pg_zok hz
  rw [if_neg (by omega)] at a2
  refine ⟨?_, a2, a3 hk, ?_⟩
  · rcases (pg_mth_ok hm).1 (Nat.lt_trans hz pg_num_lt) with h | ⟨h, -⟩
    · exact h
    · omega
  · rw [← pg_own_ok (Nat.le_of_lt hz)]; exact a4
theorem pg_callI {own idx z : Nat} (hm : pg_mth own idx = some z) (hz : z < pg_num) (hk : pg_mk z = 1) : Cond.methodLink (pg_cn own) idx (pg_y z) ∈ pg_words ∧ Cond.instanceMethod (pg_y z) ∈ pg_words ∧ Cond.initialized (pg_y z).cls ∈ pg_words ∧ (pg_y z).name = "<init>" ∧ pg_ret z = none := by
  obtain ⟨a1, a2, a3, a4⟩ := pg_zok hz
  rw [if_neg (by omega)] at a2
  obtain ⟨b1, b2⟩ := (pg_d (Nat.le_of_lt hz)).2.2.2.2.2.2.1 hk
  refine ⟨?_, a2, a4, b1, (pg_rk_ok z).1 b2⟩
  rcases (pg_mth_ok hm).1 (Nat.lt_trans hz pg_num_lt) with h | ⟨h, -⟩
  · exact h
  · omega
theorem pg_callS {own idx z : Nat} (hm : pg_mth own idx = some z) (hz : z < pg_num) (hk : pg_mk z = 2) : (Cond.methodLink (pg_cn own) idx (pg_y z) ∈ pg_words ∨ Cond.methodLinkNest (pg_cn own) idx (pg_y z) (pg_cn 0) ∈ pg_nest) ∧ Cond.static (pg_y z) ∈ pg_words ∧ Cond.initialized (pg_y z).cls ∈ pg_words := by
  obtain ⟨a1, a2, a3, a4⟩ := pg_zok hz
  rw [if_pos hk] at a2
  refine ⟨?_, a2, a4⟩
  rcases (pg_mth_ok hm).1 (Nat.lt_trans hz pg_num_lt) with h | ⟨-, h⟩
  · exact Or.inl h
  · exact Or.inr h
theorem pg_sp0 {own idx : Nat} (h : pg_mth own idx = some 1000) : Cond.methodLink (pg_cn own) idx objectInit ∈ pg_words ∧ Cond.instanceMethod objectInit ∈ pg_words ∧ Cond.code objectInit ⟨#[0xb1]⟩ 1 none ∈ pg_words := ⟨(pg_mth_ok h).2 (by decide), pg_is_mem (w := 85) (by decide +kernel), pg_is_mem (w := 86) (by decide +kernel)⟩
theorem pg_sp1 {own idx : Nat} (h : pg_mth own idx = some 1001) : Cond.methodLink (pg_cn own) idx Lib.Math.max.name ∈ pg_words ∧ Cond.static Lib.Math.max.name ∈ pg_words ∧ Cond.initialized "java/lang/Math" ∈ pg_words ∧ Cond.code Lib.Math.max.name Lib.Math.max.code 2 (some .int) ∈ pg_words := ⟨(pg_mth_ok h).2 (by decide), pg_is_mem (w := 308) (by decide +kernel), pg_is_mem (w := 76) (by decide +kernel), pg_is_mem (w := 309) (by decide +kernel)⟩
theorem pg_sp2 {own idx : Nat} (h : pg_mth own idx = some 1002) : Cond.methodLink (pg_cn own) idx Lib.Math.min.name ∈ pg_words ∧ Cond.static Lib.Math.min.name ∈ pg_words ∧ Cond.initialized "java/lang/Math" ∈ pg_words ∧ Cond.code Lib.Math.min.name Lib.Math.min.code 2 (some .int) ∈ pg_words := ⟨(pg_mth_ok h).2 (by decide), pg_is_mem (w := 359) (by decide +kernel), pg_is_mem (w := 76) (by decide +kernel), pg_is_mem (w := 360) (by decide +kernel)⟩
theorem pg_sp3 {own idx : Nat} (h : pg_mth own idx = some 1003) : Cond.methodLink (pg_cn own) idx arraycopyName ∈ pg_words ∧ Cond.native arraycopyName ∈ pg_words ∧ Cond.static arraycopyName ∈ pg_words ∧ Cond.initialized "java/lang/System" ∈ pg_words := ⟨(pg_mth_ok h).2 (by decide), pg_is_mem (w := 363) (by decide +kernel), pg_is_mem (w := 362) (by decide +kernel), pg_is_mem (w := 77) (by decide +kernel)⟩
