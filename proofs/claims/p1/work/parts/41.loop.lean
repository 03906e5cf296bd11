/-! The law's loop -/
/-- all calls are alike on both sides at s, and what comes holds J -/
def all_ok (L : Nat) (xs : Nat → Int32) (s : St) (J : St → Prop) : Prop := ∀ a b c e : Int32,
  op_ok L xs 7 84 [.int a, .int b, .int c, .int e] s J ∧ op_ok L xs 14 87 [.int a] s J ∧ op_ok L xs 16 88 [.int a] s J ∧ op_ok L xs 17 89 [.int a, .int b] s J ∧ op_ok L xs 19 90 [.int a, .int b, .int c, .int e] s J ∧
  op_ok L xs 21 93 [.int a, .int b] s J ∧ op_ok L xs 56 109 [.int a] s J ∧ op_ok L xs 57 110 [.int a, .int b] s J ∧ op_ok L xs 59 111 [.int a] s J ∧ op_ok L xs 61 112 [.int a] s J ∧ op_ok L xs 67 119 [] s J ∧
  op_ok L xs 81 129 [.int a, .int b] s J ∧ op_ok L xs 82 130 [.int a] s J
theorem lw_iter {L : Nat} {xs : Nat → Int32} {k : Nat} {s : St} {J : St → Prop} {Q : Option Value → am_S → Prop} (hL : L ≤ 2560) (hk : 5 * k + 5 ≤ L) (h : all_ok L xs s J) (hs : J s) (hJ : ∀ s2, J s2 → am_Rn L xs 100 132 489 [.float 0, .ref 0, .ref 121, .int (nI (5 * k))] [] (mk s2) Q) :
    am_Rn L xs 100 132 26 [.float 0, .ref 0, .ref 121, .int (nI (5 * k))] [] (mk s) Q := by
  rw [lw_sw (lw_in0 hL hk)]
  obtain ⟨j, hj, e⟩ := pk_andE (xs (nI (5 * k)).toNatClampNeg) (m := 15) 4 (by decide)
  rw [e]
  obtain ⟨q0, q1, q2, q3, q4, q5, q6, q7, q8, q9, q10, q11, q12⟩ := h (xs (nI (5 * k) + 1).toNatClampNeg) (xs (nI (5 * k) + 2).toNatClampNeg) (xs (nI (5 * k) + 3).toNatClampNeg) (xs (nI (5 * k) + 4).toNatClampNeg)
  have hj : j < 16 := hj
  have hc : j = 0 ∨ j = 1 ∨ j = 2 ∨ j = 3 ∨ j = 4 ∨ j = 5 ∨ j = 6 ∨ j = 7 ∨ j = 8 ∨ j = 9 ∨ j = 10 ∨ j = 11 ∨ j = 12 ∨ j = 13 ∨ j = 14 ∨ j = 15 := by omega
  rcases hc with rfl | rfl | rfl | rfl | rfl | rfl | rfl | rfl | rfl | rfl | rfl | rfl | rfl | rfl | rfl | rfl
  · rw [am_r_tsIn (t := 100) d132_32 (by decide +kernel) (off := 68) (by decide +kernel) (by decide)]; exact lw_op0 hL hk q0 hJ
  · rw [am_r_tsIn (t := 153) d132_32 (by decide +kernel) (off := 121) (by decide +kernel) (by decide)]; exact lw_op1 hL hk q1 hJ
  · rw [am_r_tsIn (t := 176) d132_32 (by decide +kernel) (off := 144) (by decide +kernel) (by decide)]; exact lw_op2 hL hk q2 hJ
  · rw [am_r_tsIn (t := 199) d132_32 (by decide +kernel) (off := 167) (by decide +kernel) (by decide)]; exact lw_op3 hL hk q3 hJ
  · rw [am_r_tsIn (t := 232) d132_32 (by decide +kernel) (off := 200) (by decide +kernel) (by decide)]; exact lw_op4 hL hk q4 hJ
  · rw [am_r_tsIn (t := 285) d132_32 (by decide +kernel) (off := 253) (by decide +kernel) (by decide)]; exact lw_op5 hL hk q5 hJ
  · rw [am_r_tsIn (t := 318) d132_32 (by decide +kernel) (off := 286) (by decide +kernel) (by decide)]; exact lw_op6 hL hk q6 hJ
  · rw [am_r_tsIn (t := 341) d132_32 (by decide +kernel) (off := 309) (by decide +kernel) (by decide)]; exact lw_op7 hL hk q7 hJ
  · rw [am_r_tsIn (t := 374) d132_32 (by decide +kernel) (off := 342) (by decide +kernel) (by decide)]; exact lw_op8 hL hk q8 hJ
  · rw [am_r_tsIn (t := 397) d132_32 (by decide +kernel) (off := 365) (by decide +kernel) (by decide)]; exact lw_op9 hL hk q9 hJ
  · rw [am_r_tsIn (t := 420) d132_32 (by decide +kernel) (off := 388) (by decide +kernel) (by decide)]; exact lw_op10 hL hk q10 hJ
  · rw [am_r_tsIn (t := 433) d132_32 (by decide +kernel) (off := 401) (by decide +kernel) (by decide)]; exact lw_op11 hL hk q11 hJ
  · rw [am_r_tsIn (t := 466) d132_32 (by decide +kernel) (off := 434) (by decide +kernel) (by decide)]; exact lw_op12 hL hk q12 hJ
  · rw [am_r_tsOut (t := 489) d132_32 (by decide +kernel) (by decide)]; exact hJ s hs
  · rw [am_r_tsOut (t := 489) d132_32 (by decide +kernel) (by decide)]; exact hJ s hs
  · rw [am_r_tsOut (t := 489) d132_32 (by decide +kernel) (by decide)]; exact hJ s hs
theorem lw_cmp {L k : Nat} (hL : L ≤ 2560) (hk : 5 * k ≤ L + 5) : (Int32.ofNat L - 5 < nI (5 * k)) ↔ L < 5 * k + 5 := by
  have h5 : (5 : Int32) = nI 5 := by decide
  show nI L - 5 < nI (5 * k) ↔ _
  rw [h5, Int32.lt_iff_toInt_lt, pk_sub_toInt (by omega) (by omega), nI_toInt (by omega)]
  omega
theorem lw_loop {L : Nat} {xs : Nat → Int32} (hL : L ≤ 2560) (I : Nat → St → Prop) (hop : ∀ (k : Nat) (s : St), 5 * k + 5 ≤ L → I k s → all_ok L xs s (I (k + 1)) ∧ I (k + 1) s) {Q : Option Value → am_S → Prop} (hQ : ∀ s, Q (some (.int 1)) (mk s)) :
    ∀ (m k : Nat) (s : St), L / 5 - k ≤ m → 5 * k ≤ L → I k s → am_Rn L xs 100 132 18 [.float 0, .ref 0, .ref 121, .int (nI (5 * k))] [] (mk s) Q
  | m, k, s, hm, hk, hI => by
    rw [lw_head]
    by_cases h : L < 5 * k + 5
    · rw [if_pos ((lw_cmp hL (by omega)).mpr h), lw_out]
      exact hQ s
    · rw [if_neg (fun q => h ((lw_cmp hL (by omega)).mp q))]
      obtain ⟨h1, h2⟩ := hop k s (by omega) hI
      refine lw_iter hL (by omega) h1 h2 (fun s2 hs2 => ?_)
      rw [lw_next]
      have e : nI (5 * k) + 5 = nI (5 * (k + 1)) := by
        show nI (5 * k) + nI 5 = _
        rw [nI_add]
        rfl
      rw [e]
      match m, hm with
      | 0, hm => omega
      | m + 1, hm => exact lw_loop hL I hop hQ m (k + 1) s2 (by omega) (by omega) hs2
/-- the store behind the constructors -/
def in_S : am_S := match in_run2 with
  | some (_, σ) => σ
  | none => []
def in_St : St := (in_gA in_S, in_gF in_S, in_gG in_S)
theorem in_mk : in_run2 = some (none, mk in_St) ∧ in_fc (mk in_St) = true := by
  obtain ⟨σ, h1, h2⟩ := in_end
  have e1 : in_S = σ := by unfold in_S; rw [h1]
  have e2 : in_B = in_gB σ := by unfold in_B; rw [h1]
  have h3 : σ.map in_sh = in_sk ∧ σ.all in_gd = true := by
    unfold in_fc at h2
    simp only [Bool.and_eq_true, decide_eq_true_eq] at h2
    obtain ⟨⟨⟨⟨⟨⟨⟨⟨⟨⟨⟨a, b⟩, -⟩, -⟩, -⟩, -⟩, -⟩, -⟩, -⟩, -⟩, -⟩, -⟩ := h2
    exact ⟨a, b⟩
  have e3 : mk in_St = σ := by
    unfold mk in_St
    rw [e1, e2]
    exact (in_mk1 σ in_sk h3.1 h3.2).symm
  rw [e3]
  exact ⟨h1, h2⟩
theorem lw_start {L : Nat} {xs : Nat → Int32} {Q : Option Value → am_S → Prop} (h : am_Rn L xs 100 132 18 [.float 0, .ref 0, .ref 121, .int (nI 0)] [] (mk in_St) Q) : am_Rn L xs 100 132 0 (am_en 132 [.float 0]) [] [] Q := by
  obtain ⟨σ1, h1, h2, h3⟩ := in_end1
  have c1 : ∀ Q : Option Value → am_S → Prop, am_Call L xs 99 0 [.ref 0] [.inr (0, pg_def 0)] Q = Q none σ1 := fun Q => am_val (n := 5000) (by rw [am_nol L xs _ _ _ _ _ _ _ (by decide)]; exact h1)
  have c2 : ∀ Q : Option Value → am_S → Prop, am_Call L xs 99 83 [.ref 121] (σ1 ++ [.inr (6, pg_def 6)]) Q = Q none (mk in_St) := fun Q => am_val (n := 5000) (by
    rw [am_nol L xs _ _ _ _ _ _ _ (by decide)]
    have := in_mk.1
    unfold in_run2 at this
    rw [h2] at this
    exact this)
  show am_Rn L xs 100 132 0 [.float 0, .retAddr 0, .retAddr 0, .retAddr 0] [] [] Q
  simp only [r132_0, r132_3, am_okR, true_and, List.length_nil, List.nil_append]
  rw [r132_4 (by decide), c1]
  simp only [am_tN, r132_7, r132_8, r132_11, am_okR, true_and, List.length_cons, List.length_nil, h3, List.set_cons_succ, List.set_cons_zero, Nat.reduceAdd, Nat.reduceLT]
  rw [r132_12 (by decide), c2]
  simp only [am_tN, r132_15, r132_16, r132_17, true_and, List.length_cons, List.length_nil, List.set_cons_succ, List.set_cons_zero, Nat.reduceAdd, Nat.reduceLT]
  exact h
theorem lw_whole {L : Nat} {xs : Nat → Int32} (hL : L ≤ 2560) (I : Nat → St → Prop) (h0 : I 0 in_St) (hop : ∀ (k : Nat) (s : St), 5 * k + 5 ≤ L → I k s → all_ok L xs s (I (k + 1)) ∧ I (k + 1) s) :
    ∃ (n : Nat) (σ' : am_S), am_run L xs n 100 pg_num 0 (am_en pg_num [.float 0]) [] [] = some (some (.int 1), σ') ∧ σ'.length ≤ 600000 ∧ am_ns σ' ≤ 7302250 := by
  have h := lw_start (L := L) (xs := xs) (Q := fun r σ => r = some (.int 1) ∧ σ.length ≤ 600000 ∧ am_ns σ ≤ 7302250) (lw_loop hL I hop (fun s => ⟨rfl, by rw [mk_len]; decide, by rw [mk_ns]; exact mk_ns_le⟩) (L / 5) 0 in_St (by omega) (by omega) h0)
  obtain ⟨n, r, σ', h1, rfl, h2, h3⟩ := h
  exact ⟨n, σ', h1, h2, h3⟩
