/-! The law's loop, out of its calls -/
theorem lw_i5 (k j : Nat) : nI (5 * k) + nI j = nI (5 * k + j) := nI_add _ _
theorem lw_in {L k j : Nat} (hL : L ≤ 2560) (hk : 5 * k + 5 ≤ L) (hj : j < 5) : am_in (nI (5 * k) + nI j) L = true := by
  rw [nI_add]
  unfold am_in
  rw [nI_clamp (by omega)]
  simp only [Bool.and_eq_true, Bool.not_eq_true', decide_eq_false_iff_not, decide_eq_true_eq]
  exact ⟨nI_pos (by omega), by omega⟩
theorem lw_in0 {L k : Nat} (hL : L ≤ 2560) (hk : 5 * k + 5 ≤ L) : am_in (nI (5 * k)) L = true := by
  have h := lw_in (j := 0) hL hk (by omega)
  rw [nI_add] at h
  exact h
theorem lw_head {L : Nat} {xs : Nat → Int32} {i : Int32} {σ : am_S} {Q : Option Value → am_S → Prop} : am_Rn L xs 100 132 18 [.float 0, .ref 0, .ref 121, .int i] [] σ Q = if Int32.ofNat L - 5 < i then am_Rn L xs 100 132 495 [.float 0, .ref 0, .ref 121, .int i] [] σ Q else am_Rn L xs 100 132 26 [.float 0, .ref 0, .ref 121, .int i] [] σ Q := by
  simp only [r132_18, r132_19, r132_20, r132_21, r132_22, r132_23, am_li0, am_liS, am_laR0, am_laF0, am_laS, am_tL, am_tN, am_okI, am_okR]
theorem lw_sw {L : Nat} {xs : Nat → Int32} {i : Int32} {σ : am_S} {Q : Option Value → am_S → Prop} (hi : am_in i L = true) : am_Rn L xs 100 132 26 [.float 0, .ref 0, .ref 121, .int i] [] σ Q = am_Rn L xs 100 132 32 [.float 0, .ref 0, .ref 121, .int i] [.int (xs i.toNatClampNeg &&& 15)] σ Q := by
  simp only [r132_26, r132_27, r132_29, r132_31, s132_28, am_li0, am_liS, am_laR0, am_laF0, am_laS, am_tL, am_tN, am_okI, am_okR, hi, true_and]
theorem lw_next {L : Nat} {xs : Nat → Int32} {i : Int32} {σ : am_S} {Q : Option Value → am_S → Prop} : am_Rn L xs 100 132 489 [.float 0, .ref 0, .ref 121, .int i] [] σ Q = am_Rn L xs 100 132 18 [.float 0, .ref 0, .ref 121, .int (i + 5)] [] σ Q := by
  simp only [r132_489, r132_492, am_li0, am_liS, am_laR0, am_laF0, am_laS, am_tL, am_tN, am_okI, am_okR, List.set_cons_succ, List.set_cons_zero]
theorem lw_out {L : Nat} {xs : Nat → Int32} {i : Int32} {σ : am_S} {Q : Option Value → am_S → Prop} : am_Rn L xs 100 132 495 [.float 0, .ref 0, .ref 121, .int i] [] σ Q = Q (some (.int 1)) σ := by
  rw [r132_495, r132_496 (Or.inr rfl)]
theorem lw_op0 {L : Nat} {xs : Nat → Int32} {k : Nat} {s : St} {J : St → Prop} {Q : Option Value → am_S → Prop} (hL : L ≤ 2560) (hk : 5 * k + 5 ≤ L) (h : op_ok L xs 7 84 [.int (xs (nI (5 * k) + 1).toNatClampNeg), .int (xs (nI (5 * k) + 2).toNatClampNeg), .int (xs (nI (5 * k) + 3).toNatClampNeg), .int (xs (nI (5 * k) + 4).toNatClampNeg)] s J) (hJ : ∀ s2, J s2 → am_Rn L xs 100 132 489 [.float 0, .ref 0, .ref 121, .int (nI (5 * k))] [] (mk s2) Q) : am_Rn L xs 100 132 100 [.float 0, .ref 0, .ref 121, .int (nI (5 * k))] [] (mk s) Q := by
  obtain ⟨r, s1, s2, c1, c2, hj⟩ := h
  have h1 : am_in (nI (5 * k) + 1) L = true := lw_in (j := 1) hL hk (by omega)
  have h2 : am_in (nI (5 * k) + 2) L = true := lw_in (j := 2) hL hk (by omega)
  have h3 : am_in (nI (5 * k) + 3) L = true := lw_in (j := 3) hL hk (by omega)
  have h4 : am_in (nI (5 * k) + 4) L = true := lw_in (j := 4) hL hk (by omega)
  have o1 : am_oc (mk s) 0 = 0 := mk_oc rfl
  have o2 : am_oc (mk s1) 121 = 6 := mk_oc rfl
  simp only [r132_100, r132_101, r132_102, r132_103, r132_104, s132_105, r132_106, r132_107, r132_108, r132_109, s132_110, r132_111, r132_112, r132_113, r132_114, s132_115, r132_116, r132_117, r132_118, r132_119, s132_120, r132_121, am_li0, am_liS, am_laR0, am_laF0, am_laS, am_tL, am_tN, am_okI, am_okR, h1, h2, h3, h4, true_and, o1, List.length_cons, List.length_nil, Nat.zero_le, and_true]
  refine c1 _ ?_
  simp only [r132_124, r132_125, r132_126, r132_127, r132_128, s132_129, r132_130, r132_131, r132_132, r132_133, s132_134, r132_135, r132_136, r132_137, r132_138, s132_139, r132_140, r132_141, r132_142, r132_143, s132_144, r132_145, am_li0, am_liS, am_laR0, am_laF0, am_laS, am_tL, am_tN, am_okI, am_okR, h1, h2, h3, h4, true_and, o2, List.length_cons, List.length_nil, Nat.reduceAdd, Nat.reduceLeDiff, and_true]
  refine c2 _ ?_
  simp only [r132_148, am_li0, am_liS, am_laR0, am_laF0, am_laS, am_tL, am_tN, am_okI, am_okR, if_true]
  exact hJ s2 hj
theorem lw_op1 {L : Nat} {xs : Nat → Int32} {k : Nat} {s : St} {J : St → Prop} {Q : Option Value → am_S → Prop} (hL : L ≤ 2560) (hk : 5 * k + 5 ≤ L) (h : op_ok L xs 14 87 [.int (xs (nI (5 * k) + 1).toNatClampNeg)] s J) (hJ : ∀ s2, J s2 → am_Rn L xs 100 132 489 [.float 0, .ref 0, .ref 121, .int (nI (5 * k))] [] (mk s2) Q) : am_Rn L xs 100 132 153 [.float 0, .ref 0, .ref 121, .int (nI (5 * k))] [] (mk s) Q := by
  obtain ⟨r, s1, s2, c1, c2, hj⟩ := h
  have h1 : am_in (nI (5 * k) + 1) L = true := lw_in (j := 1) hL hk (by omega)
  have o1 : am_oc (mk s) 0 = 0 := mk_oc rfl
  have o2 : am_oc (mk s1) 121 = 6 := mk_oc rfl
  simp only [r132_153, r132_154, r132_155, r132_156, r132_157, s132_158, r132_159, am_li0, am_liS, am_laR0, am_laF0, am_laS, am_tL, am_tN, am_okI, am_okR, h1, true_and, o1, List.length_cons, List.length_nil, Nat.zero_le, and_true]
  refine c1 _ ?_
  simp only [r132_162, r132_163, r132_164, r132_165, r132_166, s132_167, r132_168, am_li0, am_liS, am_laR0, am_laF0, am_laS, am_tL, am_tN, am_okI, am_okR, h1, true_and, o2, List.length_cons, List.length_nil, Nat.reduceAdd, Nat.reduceLeDiff, and_true]
  refine c2 _ ?_
  simp only [r132_171, am_li0, am_liS, am_laR0, am_laF0, am_laS, am_tL, am_tN, am_okI, am_okR, if_true]
  exact hJ s2 hj
theorem lw_op2 {L : Nat} {xs : Nat → Int32} {k : Nat} {s : St} {J : St → Prop} {Q : Option Value → am_S → Prop} (hL : L ≤ 2560) (hk : 5 * k + 5 ≤ L) (h : op_ok L xs 16 88 [.int (xs (nI (5 * k) + 1).toNatClampNeg)] s J) (hJ : ∀ s2, J s2 → am_Rn L xs 100 132 489 [.float 0, .ref 0, .ref 121, .int (nI (5 * k))] [] (mk s2) Q) : am_Rn L xs 100 132 176 [.float 0, .ref 0, .ref 121, .int (nI (5 * k))] [] (mk s) Q := by
  obtain ⟨r, s1, s2, c1, c2, hj⟩ := h
  have h1 : am_in (nI (5 * k) + 1) L = true := lw_in (j := 1) hL hk (by omega)
  have o1 : am_oc (mk s) 0 = 0 := mk_oc rfl
  have o2 : am_oc (mk s1) 121 = 6 := mk_oc rfl
  simp only [r132_176, r132_177, r132_178, r132_179, r132_180, s132_181, r132_182, am_li0, am_liS, am_laR0, am_laF0, am_laS, am_tL, am_tN, am_okI, am_okR, h1, true_and, o1, List.length_cons, List.length_nil, Nat.zero_le, and_true]
  refine c1 _ ?_
  simp only [r132_185, r132_186, r132_187, r132_188, r132_189, s132_190, r132_191, am_li0, am_liS, am_laR0, am_laF0, am_laS, am_tL, am_tN, am_okI, am_okR, h1, true_and, o2, List.length_cons, List.length_nil, Nat.reduceAdd, Nat.reduceLeDiff, and_true]
  refine c2 _ ?_
  simp only [r132_194, am_li0, am_liS, am_laR0, am_laF0, am_laS, am_tL, am_tN, am_okI, am_okR, if_true]
  exact hJ s2 hj
theorem lw_op3 {L : Nat} {xs : Nat → Int32} {k : Nat} {s : St} {J : St → Prop} {Q : Option Value → am_S → Prop} (hL : L ≤ 2560) (hk : 5 * k + 5 ≤ L) (h : op_ok L xs 17 89 [.int (xs (nI (5 * k) + 1).toNatClampNeg), .int (xs (nI (5 * k) + 2).toNatClampNeg)] s J) (hJ : ∀ s2, J s2 → am_Rn L xs 100 132 489 [.float 0, .ref 0, .ref 121, .int (nI (5 * k))] [] (mk s2) Q) : am_Rn L xs 100 132 199 [.float 0, .ref 0, .ref 121, .int (nI (5 * k))] [] (mk s) Q := by
  obtain ⟨r, s1, s2, c1, c2, hj⟩ := h
  have h1 : am_in (nI (5 * k) + 1) L = true := lw_in (j := 1) hL hk (by omega)
  have h2 : am_in (nI (5 * k) + 2) L = true := lw_in (j := 2) hL hk (by omega)
  have o1 : am_oc (mk s) 0 = 0 := mk_oc rfl
  have o2 : am_oc (mk s1) 121 = 6 := mk_oc rfl
  simp only [r132_199, r132_200, r132_201, r132_202, r132_203, s132_204, r132_205, r132_206, r132_207, r132_208, s132_209, r132_210, am_li0, am_liS, am_laR0, am_laF0, am_laS, am_tL, am_tN, am_okI, am_okR, h1, h2, true_and, o1, List.length_cons, List.length_nil, Nat.zero_le, and_true]
  refine c1 _ ?_
  simp only [r132_213, r132_214, r132_215, r132_216, r132_217, s132_218, r132_219, r132_220, r132_221, r132_222, s132_223, r132_224, am_li0, am_liS, am_laR0, am_laF0, am_laS, am_tL, am_tN, am_okI, am_okR, h1, h2, true_and, o2, List.length_cons, List.length_nil, Nat.reduceAdd, Nat.reduceLeDiff, and_true]
  refine c2 _ ?_
  simp only [r132_227, am_li0, am_liS, am_laR0, am_laF0, am_laS, am_tL, am_tN, am_okI, am_okR, if_true]
  exact hJ s2 hj
theorem lw_op4 {L : Nat} {xs : Nat → Int32} {k : Nat} {s : St} {J : St → Prop} {Q : Option Value → am_S → Prop} (hL : L ≤ 2560) (hk : 5 * k + 5 ≤ L) (h : op_ok L xs 19 90 [.int (xs (nI (5 * k) + 1).toNatClampNeg), .int (xs (nI (5 * k) + 2).toNatClampNeg), .int (xs (nI (5 * k) + 3).toNatClampNeg), .int (xs (nI (5 * k) + 4).toNatClampNeg)] s J) (hJ : ∀ s2, J s2 → am_Rn L xs 100 132 489 [.float 0, .ref 0, .ref 121, .int (nI (5 * k))] [] (mk s2) Q) : am_Rn L xs 100 132 232 [.float 0, .ref 0, .ref 121, .int (nI (5 * k))] [] (mk s) Q := by
  obtain ⟨r, s1, s2, c1, c2, hj⟩ := h
  have h1 : am_in (nI (5 * k) + 1) L = true := lw_in (j := 1) hL hk (by omega)
  have h2 : am_in (nI (5 * k) + 2) L = true := lw_in (j := 2) hL hk (by omega)
  have h3 : am_in (nI (5 * k) + 3) L = true := lw_in (j := 3) hL hk (by omega)
  have h4 : am_in (nI (5 * k) + 4) L = true := lw_in (j := 4) hL hk (by omega)
  have o1 : am_oc (mk s) 0 = 0 := mk_oc rfl
  have o2 : am_oc (mk s1) 121 = 6 := mk_oc rfl
  simp only [r132_232, r132_233, r132_234, r132_235, r132_236, s132_237, r132_238, r132_239, r132_240, r132_241, s132_242, r132_243, r132_244, r132_245, r132_246, s132_247, r132_248, r132_249, r132_250, r132_251, s132_252, r132_253, am_li0, am_liS, am_laR0, am_laF0, am_laS, am_tL, am_tN, am_okI, am_okR, h1, h2, h3, h4, true_and, o1, List.length_cons, List.length_nil, Nat.zero_le, and_true]
  refine c1 _ ?_
  simp only [r132_256, r132_257, r132_258, r132_259, r132_260, s132_261, r132_262, r132_263, r132_264, r132_265, s132_266, r132_267, r132_268, r132_269, r132_270, s132_271, r132_272, r132_273, r132_274, r132_275, s132_276, r132_277, am_li0, am_liS, am_laR0, am_laF0, am_laS, am_tL, am_tN, am_okI, am_okR, h1, h2, h3, h4, true_and, o2, List.length_cons, List.length_nil, Nat.reduceAdd, Nat.reduceLeDiff, and_true]
  refine c2 _ ?_
  simp only [r132_280, am_li0, am_liS, am_laR0, am_laF0, am_laS, am_tL, am_tN, am_okI, am_okR, if_true]
  exact hJ s2 hj
theorem lw_op5 {L : Nat} {xs : Nat → Int32} {k : Nat} {s : St} {J : St → Prop} {Q : Option Value → am_S → Prop} (hL : L ≤ 2560) (hk : 5 * k + 5 ≤ L) (h : op_ok L xs 21 93 [.int (xs (nI (5 * k) + 1).toNatClampNeg), .int (xs (nI (5 * k) + 2).toNatClampNeg)] s J) (hJ : ∀ s2, J s2 → am_Rn L xs 100 132 489 [.float 0, .ref 0, .ref 121, .int (nI (5 * k))] [] (mk s2) Q) : am_Rn L xs 100 132 285 [.float 0, .ref 0, .ref 121, .int (nI (5 * k))] [] (mk s) Q := by
  obtain ⟨r, s1, s2, c1, c2, hj⟩ := h
  have h1 : am_in (nI (5 * k) + 1) L = true := lw_in (j := 1) hL hk (by omega)
  have h2 : am_in (nI (5 * k) + 2) L = true := lw_in (j := 2) hL hk (by omega)
  have o1 : am_oc (mk s) 0 = 0 := mk_oc rfl
  have o2 : am_oc (mk s1) 121 = 6 := mk_oc rfl
  simp only [r132_285, r132_286, r132_287, r132_288, r132_289, s132_290, r132_291, r132_292, r132_293, r132_294, s132_295, r132_296, am_li0, am_liS, am_laR0, am_laF0, am_laS, am_tL, am_tN, am_okI, am_okR, h1, h2, true_and, o1, List.length_cons, List.length_nil, Nat.zero_le, and_true]
  refine c1 _ ?_
  simp only [r132_299, r132_300, r132_301, r132_302, r132_303, s132_304, r132_305, r132_306, r132_307, r132_308, s132_309, r132_310, am_li0, am_liS, am_laR0, am_laF0, am_laS, am_tL, am_tN, am_okI, am_okR, h1, h2, true_and, o2, List.length_cons, List.length_nil, Nat.reduceAdd, Nat.reduceLeDiff, and_true]
  refine c2 _ ?_
  simp only [r132_313, am_li0, am_liS, am_laR0, am_laF0, am_laS, am_tL, am_tN, am_okI, am_okR, if_true]
  exact hJ s2 hj
theorem lw_op6 {L : Nat} {xs : Nat → Int32} {k : Nat} {s : St} {J : St → Prop} {Q : Option Value → am_S → Prop} (hL : L ≤ 2560) (hk : 5 * k + 5 ≤ L) (h : op_ok L xs 56 109 [.int (xs (nI (5 * k) + 1).toNatClampNeg)] s J) (hJ : ∀ s2, J s2 → am_Rn L xs 100 132 489 [.float 0, .ref 0, .ref 121, .int (nI (5 * k))] [] (mk s2) Q) : am_Rn L xs 100 132 318 [.float 0, .ref 0, .ref 121, .int (nI (5 * k))] [] (mk s) Q := by
  obtain ⟨r, s1, s2, c1, c2, hj⟩ := h
  have h1 : am_in (nI (5 * k) + 1) L = true := lw_in (j := 1) hL hk (by omega)
  have o1 : am_oc (mk s) 0 = 0 := mk_oc rfl
  have o2 : am_oc (mk s1) 121 = 6 := mk_oc rfl
  simp only [r132_318, r132_319, r132_320, r132_321, r132_322, s132_323, r132_324, am_li0, am_liS, am_laR0, am_laF0, am_laS, am_tL, am_tN, am_okI, am_okR, h1, true_and, o1, List.length_cons, List.length_nil, Nat.zero_le, and_true]
  refine c1 _ ?_
  simp only [r132_327, r132_328, r132_329, r132_330, r132_331, s132_332, r132_333, am_li0, am_liS, am_laR0, am_laF0, am_laS, am_tL, am_tN, am_okI, am_okR, h1, true_and, o2, List.length_cons, List.length_nil, Nat.reduceAdd, Nat.reduceLeDiff, and_true]
  refine c2 _ ?_
  simp only [r132_336, am_li0, am_liS, am_laR0, am_laF0, am_laS, am_tL, am_tN, am_okI, am_okR, if_true]
  exact hJ s2 hj
theorem lw_op7 {L : Nat} {xs : Nat → Int32} {k : Nat} {s : St} {J : St → Prop} {Q : Option Value → am_S → Prop} (hL : L ≤ 2560) (hk : 5 * k + 5 ≤ L) (h : op_ok L xs 57 110 [.int (xs (nI (5 * k) + 1).toNatClampNeg), .int (xs (nI (5 * k) + 2).toNatClampNeg)] s J) (hJ : ∀ s2, J s2 → am_Rn L xs 100 132 489 [.float 0, .ref 0, .ref 121, .int (nI (5 * k))] [] (mk s2) Q) : am_Rn L xs 100 132 341 [.float 0, .ref 0, .ref 121, .int (nI (5 * k))] [] (mk s) Q := by
  obtain ⟨r, s1, s2, c1, c2, hj⟩ := h
  have h1 : am_in (nI (5 * k) + 1) L = true := lw_in (j := 1) hL hk (by omega)
  have h2 : am_in (nI (5 * k) + 2) L = true := lw_in (j := 2) hL hk (by omega)
  have o1 : am_oc (mk s) 0 = 0 := mk_oc rfl
  have o2 : am_oc (mk s1) 121 = 6 := mk_oc rfl
  simp only [r132_341, r132_342, r132_343, r132_344, r132_345, s132_346, r132_347, r132_348, r132_349, r132_350, s132_351, r132_352, am_li0, am_liS, am_laR0, am_laF0, am_laS, am_tL, am_tN, am_okI, am_okR, h1, h2, true_and, o1, List.length_cons, List.length_nil, Nat.zero_le, and_true]
  refine c1 _ ?_
  simp only [r132_355, r132_356, r132_357, r132_358, r132_359, s132_360, r132_361, r132_362, r132_363, r132_364, s132_365, r132_366, am_li0, am_liS, am_laR0, am_laF0, am_laS, am_tL, am_tN, am_okI, am_okR, h1, h2, true_and, o2, List.length_cons, List.length_nil, Nat.reduceAdd, Nat.reduceLeDiff, and_true]
  refine c2 _ ?_
  simp only [r132_369, am_li0, am_liS, am_laR0, am_laF0, am_laS, am_tL, am_tN, am_okI, am_okR, if_true]
  exact hJ s2 hj
theorem lw_op8 {L : Nat} {xs : Nat → Int32} {k : Nat} {s : St} {J : St → Prop} {Q : Option Value → am_S → Prop} (hL : L ≤ 2560) (hk : 5 * k + 5 ≤ L) (h : op_ok L xs 59 111 [.int (xs (nI (5 * k) + 1).toNatClampNeg)] s J) (hJ : ∀ s2, J s2 → am_Rn L xs 100 132 489 [.float 0, .ref 0, .ref 121, .int (nI (5 * k))] [] (mk s2) Q) : am_Rn L xs 100 132 374 [.float 0, .ref 0, .ref 121, .int (nI (5 * k))] [] (mk s) Q := by
  obtain ⟨r, s1, s2, c1, c2, hj⟩ := h
  have h1 : am_in (nI (5 * k) + 1) L = true := lw_in (j := 1) hL hk (by omega)
  have o1 : am_oc (mk s) 0 = 0 := mk_oc rfl
  have o2 : am_oc (mk s1) 121 = 6 := mk_oc rfl
  simp only [r132_374, r132_375, r132_376, r132_377, r132_378, s132_379, r132_380, am_li0, am_liS, am_laR0, am_laF0, am_laS, am_tL, am_tN, am_okI, am_okR, h1, true_and, o1, List.length_cons, List.length_nil, Nat.zero_le, and_true]
  refine c1 _ ?_
  simp only [r132_383, r132_384, r132_385, r132_386, r132_387, s132_388, r132_389, am_li0, am_liS, am_laR0, am_laF0, am_laS, am_tL, am_tN, am_okI, am_okR, h1, true_and, o2, List.length_cons, List.length_nil, Nat.reduceAdd, Nat.reduceLeDiff, and_true]
  refine c2 _ ?_
  simp only [r132_392, am_li0, am_liS, am_laR0, am_laF0, am_laS, am_tL, am_tN, am_okI, am_okR, if_true]
  exact hJ s2 hj
theorem lw_op9 {L : Nat} {xs : Nat → Int32} {k : Nat} {s : St} {J : St → Prop} {Q : Option Value → am_S → Prop} (hL : L ≤ 2560) (hk : 5 * k + 5 ≤ L) (h : op_ok L xs 61 112 [.int (xs (nI (5 * k) + 1).toNatClampNeg)] s J) (hJ : ∀ s2, J s2 → am_Rn L xs 100 132 489 [.float 0, .ref 0, .ref 121, .int (nI (5 * k))] [] (mk s2) Q) : am_Rn L xs 100 132 397 [.float 0, .ref 0, .ref 121, .int (nI (5 * k))] [] (mk s) Q := by
  obtain ⟨r, s1, s2, c1, c2, hj⟩ := h
  have h1 : am_in (nI (5 * k) + 1) L = true := lw_in (j := 1) hL hk (by omega)
  have o1 : am_oc (mk s) 0 = 0 := mk_oc rfl
  have o2 : am_oc (mk s1) 121 = 6 := mk_oc rfl
  simp only [r132_397, r132_398, r132_399, r132_400, r132_401, s132_402, r132_403, am_li0, am_liS, am_laR0, am_laF0, am_laS, am_tL, am_tN, am_okI, am_okR, h1, true_and, o1, List.length_cons, List.length_nil, Nat.zero_le, and_true]
  refine c1 _ ?_
  simp only [r132_406, r132_407, r132_408, r132_409, r132_410, s132_411, r132_412, am_li0, am_liS, am_laR0, am_laF0, am_laS, am_tL, am_tN, am_okI, am_okR, h1, true_and, o2, List.length_cons, List.length_nil, Nat.reduceAdd, Nat.reduceLeDiff, and_true]
  refine c2 _ ?_
  simp only [r132_415, am_li0, am_liS, am_laR0, am_laF0, am_laS, am_tL, am_tN, am_okI, am_okR, if_true]
  exact hJ s2 hj
theorem lw_op10 {L : Nat} {xs : Nat → Int32} {k : Nat} {s : St} {J : St → Prop} {Q : Option Value → am_S → Prop} (hL : L ≤ 2560) (hk : 5 * k + 5 ≤ L) (h : op_ok L xs 67 119 [] s J) (hJ : ∀ s2, J s2 → am_Rn L xs 100 132 489 [.float 0, .ref 0, .ref 121, .int (nI (5 * k))] [] (mk s2) Q) : am_Rn L xs 100 132 420 [.float 0, .ref 0, .ref 121, .int (nI (5 * k))] [] (mk s) Q := by
  obtain ⟨r, s1, s2, c1, c2, hj⟩ := h
  have o1 : am_oc (mk s) 0 = 0 := mk_oc rfl
  have o2 : am_oc (mk s1) 121 = 6 := mk_oc rfl
  simp only [r132_420, r132_421, am_li0, am_liS, am_laR0, am_laF0, am_laS, am_tL, am_tN, am_okI, am_okR, true_and, o1, List.length_cons, List.length_nil, Nat.zero_le, and_true]
  refine c1 _ ?_
  simp only [r132_424, r132_425, am_li0, am_liS, am_laR0, am_laF0, am_laS, am_tL, am_tN, am_okI, am_okR, true_and, o2, List.length_cons, List.length_nil, Nat.reduceAdd, Nat.reduceLeDiff, and_true]
  refine c2 _ ?_
  simp only [r132_428, am_li0, am_liS, am_laR0, am_laF0, am_laS, am_tL, am_tN, am_okI, am_okR, if_true]
  exact hJ s2 hj
theorem lw_op11 {L : Nat} {xs : Nat → Int32} {k : Nat} {s : St} {J : St → Prop} {Q : Option Value → am_S → Prop} (hL : L ≤ 2560) (hk : 5 * k + 5 ≤ L) (h : op_ok L xs 81 129 [.int (xs (nI (5 * k) + 1).toNatClampNeg), .int (xs (nI (5 * k) + 2).toNatClampNeg)] s J) (hJ : ∀ s2, J s2 → am_Rn L xs 100 132 489 [.float 0, .ref 0, .ref 121, .int (nI (5 * k))] [] (mk s2) Q) : am_Rn L xs 100 132 433 [.float 0, .ref 0, .ref 121, .int (nI (5 * k))] [] (mk s) Q := by
  obtain ⟨r, s1, s2, c1, c2, hj⟩ := h
  have h1 : am_in (nI (5 * k) + 1) L = true := lw_in (j := 1) hL hk (by omega)
  have h2 : am_in (nI (5 * k) + 2) L = true := lw_in (j := 2) hL hk (by omega)
  have o1 : am_oc (mk s) 0 = 0 := mk_oc rfl
  have o2 : am_oc (mk s1) 121 = 6 := mk_oc rfl
  simp only [r132_433, r132_434, r132_435, r132_436, r132_437, s132_438, r132_439, r132_440, r132_441, r132_442, s132_443, r132_444, am_li0, am_liS, am_laR0, am_laF0, am_laS, am_tL, am_tN, am_okI, am_okR, h1, h2, true_and, o1, List.length_cons, List.length_nil, Nat.zero_le, and_true]
  refine c1 _ ?_
  simp only [r132_447, r132_448, r132_449, r132_450, r132_451, s132_452, r132_453, r132_454, r132_455, r132_456, s132_457, r132_458, am_li0, am_liS, am_laR0, am_laF0, am_laS, am_tL, am_tN, am_okI, am_okR, h1, h2, true_and, o2, List.length_cons, List.length_nil, Nat.reduceAdd, Nat.reduceLeDiff, and_true]
  refine c2 _ ?_
  simp only [r132_461, am_li0, am_liS, am_laR0, am_laF0, am_laS, am_tL, am_tN, am_okI, am_okR, if_true]
  exact hJ s2 hj
theorem lw_op12 {L : Nat} {xs : Nat → Int32} {k : Nat} {s : St} {J : St → Prop} {Q : Option Value → am_S → Prop} (hL : L ≤ 2560) (hk : 5 * k + 5 ≤ L) (h : op_ok L xs 82 130 [.int (xs (nI (5 * k) + 1).toNatClampNeg)] s J) (hJ : ∀ s2, J s2 → am_Rn L xs 100 132 489 [.float 0, .ref 0, .ref 121, .int (nI (5 * k))] [] (mk s2) Q) : am_Rn L xs 100 132 466 [.float 0, .ref 0, .ref 121, .int (nI (5 * k))] [] (mk s) Q := by
  obtain ⟨r, s1, s2, c1, c2, hj⟩ := h
  have h1 : am_in (nI (5 * k) + 1) L = true := lw_in (j := 1) hL hk (by omega)
  have o1 : am_oc (mk s) 0 = 0 := mk_oc rfl
  have o2 : am_oc (mk s1) 121 = 6 := mk_oc rfl
  simp only [r132_466, r132_467, r132_468, r132_469, r132_470, s132_471, r132_472, am_li0, am_liS, am_laR0, am_laF0, am_laS, am_tL, am_tN, am_okI, am_okR, h1, true_and, o1, List.length_cons, List.length_nil, Nat.zero_le, and_true]
  refine c1 _ ?_
  simp only [r132_475, r132_476, r132_477, r132_478, r132_479, s132_480, r132_481, am_li0, am_liS, am_laR0, am_laF0, am_laS, am_tL, am_tN, am_okI, am_okR, h1, true_and, o2, List.length_cons, List.length_nil, Nat.reduceAdd, Nat.reduceLeDiff, and_true]
  refine c2 _ ?_
  simp only [r132_484, am_li0, am_liS, am_laR0, am_laF0, am_laS, am_tL, am_tN, am_okI, am_okR, if_true]
  exact hJ s2 hj
