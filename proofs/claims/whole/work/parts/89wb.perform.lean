/-! A step done, on both sides -/
section
variable {L : Nat} {xs : Nat → Int32} {d : Nat}
theorem ts63_0 {ls st : List Value} {σ : am_S} {Q : Option Value → am_S → Prop} : am_Rn L xs d 63 17 ls (.int 0 :: st) σ Q = am_Rn L xs d 63 44 ls st σ Q := am_r_tsIn (t := 44) d63_17 (by decide +kernel) (off := 27) (by decide +kernel) (by decide)
theorem ts63_1 {ls st : List Value} {σ : am_S} {Q : Option Value → am_S → Prop} : am_Rn L xs d 63 17 ls (.int 1 :: st) σ Q = am_Rn L xs d 63 89 ls st σ Q := am_r_tsIn (t := 89) d63_17 (by decide +kernel) (off := 72) (by decide +kernel) (by decide)
theorem ts63_2 {ls st : List Value} {σ : am_S} {Q : Option Value → am_S → Prop} : am_Rn L xs d 63 17 ls (.int 2 :: st) σ Q = am_Rn L xs d 63 105 ls st σ Q := am_r_tsIn (t := 105) d63_17 (by decide +kernel) (off := 88) (by decide +kernel) (by decide)
theorem ts63_3 {ls st : List Value} {σ : am_S} {Q : Option Value → am_S → Prop} : am_Rn L xs d 63 17 ls (.int 3 :: st) σ Q = am_Rn L xs d 63 134 ls st σ Q := am_r_tsOut (t := 134) d63_17 (by decide +kernel) (by decide)
/-- INSERT in the class's result -/
theorem c_insR {s : St} {R : Rs} {v : Nat} {p b y x : Int32} (hR : rOk R) (h : cR s R) (hv : v ∉ R.2.1) (hv36 : v < 36) (hb : okB R v p b) :
    ∃ s1 s' : St, cR s' (max R.1 (v + 1), insB R.2.1 b v, upd R.2.2.1 v p, upd R.2.2.2.1 v y, upd R.2.2.2.2 v x) ∧ frF 54 s s1 ∧ frF 54 s s' ∧ (∀ Q : Option Value → am_S → Prop, am_Call L xs (d + 1) 12 [.ref 54, .int (nI v), .int y, .int x] (mk s) Q = Q none (mk s1)) ∧ ∀ Q : Option Value → am_S → Prop, am_Call L xs (d + 1) 13 [.ref 54, .int (nI v), .int p, .int b] (mk s1) Q = Q none (mk s') := by
  have h36 := hR.1
  have mk1 : ∀ Q : Option Value → am_S → Prop, am_Call L xs (d + 1) 12 [.ref 54, .int (nI v), .int y, .int x] (mk s) Q = Q none (mk (va_up (va_up s.1 57 (upd (s.1 57) v y)) 58 (upd (s.1 58) v x), am_u2 s.2.1 54 4 (nI (max R.1 (v + 1))), s.2.2)) := fun Q => c_make isF_54 (by decide) h.1 hv36 h36
  generalize hs1 : ((va_up (va_up s.1 57 (upd (s.1 57) v y)) 58 (upd (s.1 58) v x), am_u2 s.2.1 54 4 (nI (max R.1 (v + 1))), s.2.2) : St) = s1 at mk1
  have a1 : s1.1 57 = upd (s.1 57) v y := by rw [← hs1]; dsimp only; rw [up_ne _ _ (by omega), up_same]
  have a2 : s1.1 58 = upd (s.1 58) v x := by rw [← hs1]; dsimp only; rw [up_same]
  have a3 : ∀ q, q ≠ 57 → q ≠ 58 → s1.1 q = s.1 q := fun q n1 n2 => by rw [← hs1]; dsimp only; rw [up_ne _ _ n2, up_ne _ _ n1]
  have a4 : s1.2.1 54 4 = nI (max R.1 (v + 1)) := by rw [← hs1]; dsimp only; rw [u2_same]
  have a5 : ∀ q k, ¬ (q = 54 ∧ k = 4) → s1.2.1 q k = s.2.1 q k := fun q k n1 => by rw [← hs1]; exact u2_ne _ _ n1
  have a6 : s1.2.2 = s.2.2 := by rw [← hs1]
  have hne : ∀ n, n ∈ R.2.1 → n ≠ v := fun n hn e => hv (by rw [← e]; exact hn)
  have hR1 : rOk (max R.1 (v + 1), R.2.1, R.2.2.1, upd R.2.2.2.1 v y, upd R.2.2.2.2 v x) := ⟨by dsimp only; omega, hR.2.1, fun n hn => by have := hR.2.2.1 n hn; dsimp only; omega, hR.2.2.2⟩
  have c1 : cR s1 (max R.1 (v + 1), R.2.1, R.2.2.1, upd R.2.2.2.1 v y, upd R.2.2.2.2 v x) := ⟨a4, fun n hn hq => by rw [a3 55 (by omega) (by omega)]; exact h.2.1 n hn hq, fun n hn => by
    dsimp only
    rw [a3 55 (by omega) (by omega), a3 56 (by omega) (by omega), a1, a2, upd_n _ _ (hne n hn), upd_n _ _ (hne n hn), upd_n _ _ (hne n hn), upd_n _ _ (hne n hn)]
    exact h.2.2 n hn⟩
  obtain ⟨s', b1, b2, b3⟩ := c_putR (L := L) (xs := xs) (d := d) (p := p) (b := b) hR1 c1 hv (by dsimp only; omega) hb (by rw [a1, upd_s]; exact (upd_s _ _ _).symm) (by rw [a2, upd_s]; exact (upd_s _ _ _).symm)
  have f1 : frF 54 s s1 := ⟨fun q hq => a3 q (by omega) (by omega), a5, a6⟩
  exact ⟨s1, s', b1, f1, ⟨fun q hq => (b2.1 q hq).trans (f1.1 q hq), fun q k hq => (b2.2.1 q k hq).trans (f1.2.1 q k hq), b2.2.2.trans f1.2.2⟩, mk1, b3⟩
/-- UPDATE in the class's result -/
theorem c_relR {s : St} {R : Rs} {v : Nat} {x : Int32} (hR : rOk R) (h : cR s R) (hv36 : v < 36) :
    ∃ s' : St, cR s' (R.1, R.2.1, R.2.2.1, R.2.2.2.1, upd R.2.2.2.2 v x) ∧ frF 54 s s' ∧ ∀ Q : Option Value → am_S → Prop, am_Call L xs (d + 1) 64 [.ref 54, .int (nI v), .int x] (mk s) Q = Q none (mk s') := by
  have h36 := hR.1
  have k1 : am_in (nI v) 36 = true := in_of hv36 (by decide)
  have k2 : (nI v).toNatClampNeg = v := nI_clamp (by omega)
  by_cases hv : v ∈ R.2.1
  · have hh : ∃ j, j < R.1 ∧ nI v = nI j ∧ ¬ s.1 (54 + 1) j = -2 := (cR_hs hR h (nI v)).mpr (hsB_iff.mpr ⟨v, hv, rfl⟩)
    have n1 : ¬ (1 : Int32) = 0 := by decide
    generalize hs1 : w1 s 58 v x = s1
    have a1 : s1.1 58 = upd (s.1 58) v x := by rw [← hs1, w1_q]
    have a2 : ∀ q, q ≠ 58 → s1.1 q = s.1 q := fun q n1 => by rw [← hs1, w1_o _ _ _ n1]
    have a3 : s1.2 = s.2 := by rw [← hs1]; rfl
    have fw : ∀ f : am_S → Prop, am_wi 0 (mk s) (54 + 4) (nI v) x f = (am_in (nI v) 36 = true ∧ f (mk (w1 s 58 (nI v).toNatClampNeg x))) := fun f => fw_lab isF_54
    refine ⟨s1, ⟨by rw [a3]; exact h.1, fun n hn hq => by rw [a2 55 (by omega)]; exact h.2.1 n hn hq, fun n hn => ?_⟩, ⟨fun q hq => a2 q (by omega), fun q k _ => by rw [a3], by rw [a3]⟩, fun Q => ?_⟩
    · dsimp only
      rw [a2 55 (by omega), a2 56 (by omega), a2 57 (by omega), a1]
      obtain ⟨e1, e2, e3, e4⟩ := h.2.2 n hn
      refine ⟨e1, e2, e3, ?_⟩
      unfold upd
      by_cases e : n = v
      · rw [if_pos e, if_pos e]
      · rw [if_neg e, if_neg e]; exact e4
    · simp only [e64, r64_0, r64_1, r64_2, r64_5, r64_8, r64_9, r64_12, r64_13, r64_14, r64_15, am_li0, am_liS, am_laR0, am_tL, f_oc isF_54, f_lab isF_54, c_has isF_54 (by decide) h.1 h36, fw, hh, k1, k2, hs1, n1, if_true, if_false, am_okI, List.length_nil, Nat.zero_le, and_true, true_and]
  · have hh : ¬ ∃ j, j < R.1 ∧ nI v = nI j ∧ ¬ s.1 (54 + 1) j = -2 := fun q => by
      obtain ⟨m, m1, m2⟩ := hsB_iff.mp ((cR_hs hR h (nI v)).mp q)
      exact hv (by rw [(nI_eq (by omega) (rOk_lt hR m m1)).mp m2]; exact m1)
    refine ⟨s, ⟨h.1, h.2.1, fun n hn => ?_⟩, ⟨fun _ _ => rfl, fun _ _ _ => rfl, rfl⟩, fun Q => ?_⟩
    · dsimp only
      rw [upd_n _ _ (fun e => hv (by rw [← e]; exact hn))]
      exact h.2.2 n hn
    · simp only [e64, r64_0, r64_1, r64_2, r64_5, r64_15, am_li0, am_liS, am_laR0, am_tL, f_oc isF_54, c_has isF_54 (by decide) h.1 h36, hh, if_true, if_false, am_okI, List.length_nil, Nat.zero_le, and_true, true_and]
/-- MOVE in the class's result -/
theorem c_movR {s : St} {R : Rs} {v : Nat} {p b : Int32} (hR : rOk R) (h : cR s R) (hv : v ∈ R.2.1) (hb : okB R v p b) :
    ∃ s1 s' : St, cR s' (R.1, insB (rmv v R.2.1) b v, upd R.2.2.1 v p, R.2.2.2) ∧ frF 54 s s1 ∧ frF 54 s s' ∧ (∀ Q : Option Value → am_S → Prop, am_Call L xs (d + 1) 65 [.ref 54, .int (nI v)] (mk s) Q = Q none (mk s1)) ∧ ∀ Q : Option Value → am_S → Prop, am_Call L xs (d + 1) 13 [.ref 54, .int (nI v), .int p, .int b] (mk s1) Q = Q none (mk s') := by
  obtain ⟨s1, a1, a2, a3, a4⟩ := c_takeOut (L := L) (xs := xs) (d := d) hR h hv
  obtain ⟨-, -, e3, e4⟩ := h.2.2 v hv
  obtain ⟨s', b1, b2, b3⟩ := c_putR (L := L) (xs := xs) (d := d) (p := p) (b := b) (rOk_rmv hR v) a1 (fun q => (rmv_mem.mp q).2 rfl) (hR.2.2.1 v hv) ⟨hb.1, hb.2.1, fun m hm hne e => hb.2.2 m (rmv_mem.mp hm).1 hne e⟩ (by rw [a2.1]; exact e3) (by rw [a2.2]; exact e4)
  exact ⟨s1, s', b1, a3, ⟨fun q hq => (b2.1 q hq).trans (a3.1 q hq), fun q k hq => (b2.2.1 q k hq).trans (a3.2.1 q k hq), b2.2.2.trans a3.2.2⟩, a4, b3⟩
theorem c_perform {s : St} {D k : Nat} {l : List Sp} {q : Sp} {R : Rs} (hE : isE D) (hD : D + 24 < 54 ∨ 58 < D) (hs : sc s D l) (hl : l.length ≤ 24) (hk : l[k]? = some q) (hR : rOk R) (h : cR s R) (hq : okS R q) :
    ∃ s' : St, cR s' (doS R q) ∧ frF 54 s s' ∧ ∀ Q : Option Value → am_S → Prop, am_Call L xs (d + 2) 63 [.ref (D + 13), .int (nI k), .ref 54] (mk s) Q = Q none (mk s') := by
  have hkl : k < l.length := (List.getElem?_eq_some_iff.mp hk).1
  have k1 : am_in (nI k) 24 = true := in_of (by omega) (by decide)
  have k2 : (nI k).toNatClampNeg = k := nI_clamp (by omega)
  have p0 : ∀ (s : St) (f : Nat → Prop), am_ar2 (mk s) (D + 14) 0 f = f (D + 15 + 0) := fun s f => s_p (s := s) hE (j := 0) (by decide)
  have p1 : ∀ (s : St) (f : Nat → Prop), am_ar2 (mk s) (D + 14) 1 f = f (D + 15 + 1) := fun s f => s_p (s := s) hE (j := 1) (by decide)
  have p2 : ∀ (s : St) (f : Nat → Prop), am_ar2 (mk s) (D + 14) 2 f = f (D + 15 + 2) := fun s f => s_p (s := s) hE (j := 2) (by decide)
  have p3 : ∀ (s : St) (f : Nat → Prop), am_ar2 (mk s) (D + 14) 3 f = f (D + 15 + 3) := fun s f => s_p (s := s) hE (j := 3) (by decide)
  have p4 : ∀ (s : St) (f : Nat → Prop), am_ar2 (mk s) (D + 14) 4 f = f (D + 15 + 4) := fun s f => s_p (s := s) hE (j := 4) (by decide)
  have p5 : ∀ (s : St) (f : Nat → Prop), am_ar2 (mk s) (D + 14) 5 f = f (D + 15 + 5) := fun s f => s_p (s := s) hE (j := 5) (by decide)
  obtain ⟨kd, nd, p, b, y, x⟩ := q
  obtain ⟨v, e, hv, hc⟩ := hq
  dsimp only at e hc
  subst e
  have g0 : s.1 (D + 15 + 0) k = kd := hs.2 k _ hk 0 (by decide)
  have g1 : s.1 (D + 15 + 1) k = nI v := hs.2 k _ hk 1 (by decide)
  have g2 : s.1 (D + 15 + 2) k = p := hs.2 k _ hk 2 (by decide)
  have g3 : s.1 (D + 15 + 3) k = b := hs.2 k _ hk 3 (by decide)
  have g4 : s.1 (D + 15 + 4) k = y := hs.2 k _ hk 4 (by decide)
  have g5 : s.1 (D + 15 + 5) k = x := hs.2 k _ hk 5 (by decide)
  rcases hc with ⟨rfl, h1, h2⟩ | rfl | ⟨rfl, h1, h2⟩ | ⟨rfl, h1⟩
  · obtain ⟨s1, s', a1, a2, a3, a4, a5⟩ := c_insR (L := L) (xs := xs) (d := d) (y := y) (x := x) hR h h1 hv h2
    rw [doS_0 R v (by omega)]
    have t2 : s1.1 (D + 15 + 2) k = p := by rw [a2.1 _ (by omega)]; exact g2
    have t3 : s1.1 (D + 15 + 3) k = b := by rw [a2.1 _ (by omega)]; exact g3
    refine ⟨s', a1, a3, fun Q => ?_⟩
    simp only [e63, r63_0, r63_1, r63_4, r63_5, r63_6, r63_7, r63_8, r63_9, r63_10, r63_13, r63_14, r63_15, r63_16, ts63_0, r63_44, r63_45, r63_46, r63_47, r63_50, r63_51, r63_52, r63_53, r63_54, r63_55, r63_58, r63_59, r63_60, r63_61, r63_62, r63_65, r63_66, r63_67, r63_68, r63_71, r63_72, r63_73, r63_74, r63_75, r63_76, r63_79, r63_80, r63_81, r63_82, r63_83, r63_86, r63_139, am_li0, am_liS, am_laR0, am_laS, am_tN, s_0 hE, p0, p1, p2, p3, p4, p5, s_a hE (show 0 < 6 by decide), s_a hE (show 1 < 6 by decide), s_a hE (show 2 < 6 by decide), s_a hE (show 3 < 6 by decide), s_a hE (show 4 < 6 by decide), s_a hE (show 5 < 6 by decide), k1, k2, g0, g1, g4, g5, t2, t3, f_oc isF_54, a4, a5, am_okI, am_okR, List.length_cons, List.length_nil, List.set_cons_succ, List.set_cons_zero, Nat.reduceAdd, Nat.reduceLT, Nat.zero_le, Nat.reduceLeDiff, and_true, true_and]
  · obtain ⟨s', a1, a2, a3⟩ := c_relR (L := L) (xs := xs) (d := d) (x := x) hR h hv
    rw [doS_1 R v (by omega)]
    refine ⟨s', a1, a2, fun Q => ?_⟩
    simp only [e63, r63_0, r63_1, r63_4, r63_5, r63_6, r63_7, r63_8, r63_9, r63_10, r63_13, r63_14, r63_15, r63_16, ts63_1, r63_89, r63_90, r63_91, r63_92, r63_95, r63_96, r63_97, r63_98, r63_99, r63_102, r63_139, am_li0, am_liS, am_laR0, am_laS, am_tN, s_0 hE, p0, p1, p5, s_a hE (show 0 < 6 by decide), s_a hE (show 1 < 6 by decide), s_a hE (show 5 < 6 by decide), k1, k2, g0, g1, g5, f_oc isF_54, a3, am_okI, am_okR, List.length_cons, List.length_nil, List.set_cons_succ, List.set_cons_zero, Nat.reduceAdd, Nat.reduceLT, Nat.zero_le, Nat.reduceLeDiff, and_true, true_and]
  · obtain ⟨s1, s', a1, a2, a3, a4, a5⟩ := c_movR (L := L) (xs := xs) (d := d) hR h h1 h2
    rw [doS_2 R v (by omega)]
    have t2 : s1.1 (D + 15 + 2) k = p := by rw [a2.1 _ (by omega)]; exact g2
    have t3 : s1.1 (D + 15 + 3) k = b := by rw [a2.1 _ (by omega)]; exact g3
    refine ⟨s', a1, a3, fun Q => ?_⟩
    simp only [e63, r63_0, r63_1, r63_4, r63_5, r63_6, r63_7, r63_8, r63_9, r63_10, r63_13, r63_14, r63_15, r63_16, ts63_2, r63_105, r63_106, r63_107, r63_110, r63_111, r63_112, r63_113, r63_116, r63_117, r63_118, r63_119, r63_120, r63_121, r63_124, r63_125, r63_126, r63_127, r63_128, r63_131, r63_139, am_li0, am_liS, am_laR0, am_laS, am_tN, s_0 hE, p0, p1, p2, p3, s_a hE (show 0 < 6 by decide), s_a hE (show 1 < 6 by decide), s_a hE (show 2 < 6 by decide), s_a hE (show 3 < 6 by decide), k1, k2, g0, g1, t2, t3, f_oc isF_54, a4, a5, am_okI, am_okR, List.length_cons, List.length_nil, List.set_cons_succ, List.set_cons_zero, Nat.reduceAdd, Nat.reduceLT, Nat.zero_le, Nat.reduceLeDiff, and_true, true_and]
  · obtain ⟨s', a1, a2, a3, a4⟩ := c_takeOut (L := L) (xs := xs) (d := d) hR h h1
    rw [doS_3 R v (by omega)]
    refine ⟨s', a1, a3, fun Q => ?_⟩
    simp only [e63, r63_0, r63_1, r63_4, r63_5, r63_6, r63_7, r63_8, r63_9, r63_10, r63_13, r63_14, r63_15, r63_16, ts63_3, r63_134, r63_135, r63_136, r63_139, am_li0, am_liS, am_laR0, am_laS, am_tN, s_0 hE, p0, p1, s_a hE (show 0 < 6 by decide), s_a hE (show 1 < 6 by decide), k1, k2, g0, g1, f_oc isF_54, a4, am_okI, am_okR, List.length_cons, List.length_nil, List.set_cons_succ, List.set_cons_zero, Nat.reduceAdd, Nat.reduceLT, Nat.zero_le, Nat.reduceLeDiff, and_true, true_and]
theorem sc_F {s s' : St} {D : Nat} {l : List Sp} (hD : D + 24 < 54 ∨ 58 < D) (f : frF 54 s s') (h : sc s D l) : sc s' D l := ⟨by rw [f.2.1 _ _ (by omega)]; exact h.1, fun k p hk j hj => by rw [f.1 _ (by omega)]; exact h.2 k p hk j hj⟩
theorem frF_t {p : Nat} {s s1 s2 : St} (h : frF p s s1) (h' : frF p s1 s2) : frF p s s2 := ⟨fun q a => (h'.1 q a).trans (h.1 q a), fun q k a => (h'.2.1 q k a).trans (h.2.1 q k a), h'.2.2.trans h.2.2⟩
theorem frF_r (p : Nat) (s : St) : frF p s s := ⟨fun _ _ => rfl, fun _ _ _ => rfl, rfl⟩
theorem c_pf_loop {D n : Nat} {l : List Sp} (hE : isE D) (hD : D + 24 < 54 ∨ 58 < D) (hl : l.length ≤ 24) (hn : n ≤ l.length) : ∀ (m k : Nat) (s : St) (R : Rs), n - k = m → k ≤ n → sc s D l → rOk R → cR s R → vaS R ((l.take n).drop k) →
    ∃ s' : St, cR s' (((l.take n).drop k).foldl doS R) ∧ frF 54 s s' ∧ ∀ Q : Option Value → am_S → Prop, am_Rn L xs (d + 3) 62 2 [.ref (D + 13), .int (nI n), .ref 54, .int (nI k)] [] (mk s) Q = Q none (mk s')
  | 0, k, s, R, hm, hk, hs, hR, h, hv => by
    have e : k = n := by omega
    subst e
    have e0 : (l.take k).drop k = [] := by
      rw [List.drop_eq_nil_iff, List.length_take]; omega
    rw [e0]
    refine ⟨s, h, frF_r 54 s, fun Q => ?_⟩
    have h1 : nI k ≤ nI k := nI_le (Nat.le_refl _) (by omega)
    rw [r62_2]
    simp only [r62_3, r62_4, r62_27, am_li0, am_liS, h1, if_true]
  | m + 1, k, s, R, hm, hk, hs, hR, h, hv => by
    have h1 : ¬ nI n ≤ nI k := nI_ge (by omega) (by omega)
    have h2 : ¬ nI l.length ≤ nI k := nI_ge (by omega) (by omega)
    have hlt : k < (l.take n).length := by rw [List.length_take]; omega
    have e1 : (l.take n).drop k = l[k] :: (l.take n).drop (k + 1) := by
      rw [List.drop_eq_getElem_cons hlt, List.getElem_take]
    have hg : l[k]? = some l[k] := List.getElem?_eq_getElem (by omega)
    rw [e1] at hv ⊢
    obtain ⟨s1, a1, a2, a3⟩ := c_perform (L := L) (xs := xs) (d := d) hE hD hs hl hg hR h hv.1
    obtain ⟨s', b1, b2, b3⟩ := c_pf_loop hE hD hl hn m (k + 1) s1 (doS R l[k]) (by omega) (by omega) (sc_F hD a2 hs) (rOk_do hR hv.1) a1 hv.2
    refine ⟨s', b1, frF_t a2 b2, fun Q => ?_⟩
    have el : s.2.1 (D + 13) 1 = nI l.length := hs.1
    rw [← b3 Q, r62_2]
    simp only [r62_3, r62_4, r62_7, r62_8, r62_9, r62_12, r62_15, r62_16, r62_17, r62_18, r62_21, r62_24, am_li0, am_liS, am_laR0, am_laS, am_tN, s_1 hE, s_oc hE, el, h1, h2, a3, nI_1, if_false, am_okI, am_okR, List.length_cons, List.length_nil, List.set_cons_succ, List.set_cons_zero, Nat.reduceAdd, Nat.reduceLT, Nat.zero_le, Nat.reduceLeDiff, and_true, true_and]
theorem c_performFirst {s : St} {D n : Nat} {l : List Sp} {R : Rs} (hE : isE D) (hD : D + 24 < 54 ∨ 58 < D) (hl : l.length ≤ 24) (hn : n ≤ l.length) (hs : sc s D l) (hR : rOk R) (h : cR s R) (hv : vaS R (l.take n)) :
    ∃ s' : St, cR s' ((l.take n).foldl doS R) ∧ frF 54 s s' ∧ ∀ Q : Option Value → am_S → Prop, am_Call L xs (d + 3) 62 [.ref (D + 13), .int (nI n), .ref 54] (mk s) Q = Q none (mk s') := by
  obtain ⟨s', a1, a2, a3⟩ := c_pf_loop (L := L) (xs := xs) (d := d) hE hD hl hn n 0 s R rfl (Nat.zero_le _) hs hR h hv
  refine ⟨s', a1, a2, fun Q => ?_⟩
  have a3 : am_Rn L xs (d + 3) 62 2 [.ref (D + 13), .int (nI n), .ref 54, .int 0] [] (mk s) Q = _ := a3 Q
  rw [← a3]
  simp only [e62, r62_0, r62_1, List.length_cons, List.length_nil, List.set_cons_succ, List.set_cons_zero, Nat.reduceAdd, Nat.reduceLT, true_and]
/-! the reference -/
theorem m_does {s : St} {at' v : Nat} {R : Rs} {kd p b y x : Int32} (hat : at' < 160) (g0 : s.1 139 at' = kd) (g4 : s.1 143 at' = y) (g5 : s.1 144 at' = x) (hR : rOk R) (h : mR s R) (ht : thA s R.2.1) (hv : v < 36) (hc : (kd = 0 ∧ v ∉ R.2.1 ∧ okB R v p b) ∨ kd = 1 ∨ (kd = 2 ∧ v ∈ R.2.1 ∧ okB R v p b) ∨ (kd = 3 ∧ v ∈ R.2.1)) :
    ∃ s' : St, mR s' (doS R (kd, nI v, p, b, y, x)) ∧ thA s' (doS R (kd, nI v, p, b, y, x)).2.1 ∧ frE s s' ∧ ∀ Q : Option Value → am_S → Prop, am_Call L xs (d + 2) 114 [.ref 121, .int (nI at'), .int (nI v), .int p, .int b] (mk s) Q = Q none (mk s') := by
  have k1 : am_in (nI at') 160 = true := in_of hat (by decide)
  have k2 : (nI at').toNatClampNeg = at' := nI_clamp (by omega)
  have v1 : am_in (nI v) 36 = true := in_of hv (by decide)
  have v2 : (nI v).toNatClampNeg = v := nI_clamp (by omega)
  rcases hc with ⟨rfl, h1, h2⟩ | rfl | ⟨rfl, h1, h2⟩ | ⟨rfl, h1⟩
  · obtain ⟨s', a1, a2, a3, a4⟩ := m_inserted (L := L) (xs := xs) (d := d) (y := y) (x := x) hR h ht h1 hv h2.1 h2.2.1
    rw [doS_0 R v (by omega)]
    refine ⟨s', a1, a2, a3, fun Q => ?_⟩
    have c0 : ¬ ¬ (0 : Int32) = 0 := by decide
    simp only [e114, r114_0, r114_1, r114_4, r114_5, r114_6, r114_9, r114_10, r114_11, r114_12, r114_14, r114_15, r114_18, r114_19, r114_20, r114_21, r114_24, r114_25, r114_26, r114_29, r114_90, am_li0, am_liS, am_laR0, am_tN, m_oc, g121_19, g121_23, g121_24, a139, a143, a144, k1, k2, g0, g4, g5, not_true, a4, if_false, am_okI, am_okR, List.length_cons, List.length_nil, Nat.reduceAdd, Nat.zero_le, Nat.reduceLeDiff, and_true, true_and]
  · generalize hs1 : w1 s 150 v x = s1
    have a1 : s1.1 150 = upd (s.1 150) v x := by rw [← hs1, w1_q]
    have a2 : ∀ q, q ≠ 150 → s1.1 q = s.1 q := fun q n1 => by rw [← hs1, w1_o _ _ _ n1]
    have a3 : s1.2 = s.2 := by rw [← hs1]; rfl
    rw [doS_1 R v (by omega)]
    refine ⟨s1, ⟨by rw [a3]; exact h.1, by rw [a3]; exact h.2.1, fun k hk => by rw [a2 151 (by omega)]; exact h.2.2.1 k hk, fun n hn => ?_⟩, thA_congr (a2 147 (by omega)) ht, ⟨fun q hq => a2 q (by omega), fun q k _ _ => by rw [a3], by rw [a3]⟩, fun Q => ?_⟩
    · dsimp only
      rw [a2 148 (by omega), a2 149 (by omega), a1]
      obtain ⟨e1, e2, e3⟩ := h.2.2.2 n hn
      refine ⟨e1, e2, ?_⟩
      unfold upd
      by_cases e : n = v
      · rw [if_pos e, if_pos e]
      · rw [if_neg e, if_neg e]; exact e3
    · have n1 : ¬ (1 : Int32) = 0 := by decide
      simp only [e114, r114_0, r114_1, r114_4, r114_5, r114_6, r114_32, r114_33, r114_36, r114_37, r114_38, r114_39, r114_42, r114_43, r114_46, r114_47, r114_48, r114_51, r114_52, r114_53, r114_54, r114_90, am_li0, am_liS, am_laR0, g121_19, g121_24, g121_33, a139, a144, w150', k1, k2, v1, v2, g0, g5, n1, hs1, not_true, not_false_eq_true, if_true, if_false, true_and]
  · obtain ⟨s1, a1, a2, a3, a4⟩ := m_out (L := L) (xs := xs) (d := d + 1) hR h h1
    obtain ⟨-, e2, e3⟩ := h.2.2.2 v h1
    obtain ⟨s', b1, b2, b3⟩ := m_into (L := L) (xs := xs) (d := d + 1) (p := p) (b := b) (rOk_rmv hR v) a1 (fun q => (rmv_mem.mp q).2 rfl) hv h2.2.1 (by rw [a3.1 149 (by omega) (by omega)]; exact e2) (by rw [a3.1 150 (by omega) (by omega)]; exact e3)
    rw [doS_2 R v (by omega)]
    have hlt : ∀ z, z ∈ rmv v R.2.1 → z < 2 ^ 31 := fun z hz => rOk_lt hR z (rmv_mem.mp hz).1
    refine ⟨s', b1, fun n hn => ?_, frE_t (frL_E a3) (frL_E b2), fun Q => ?_⟩
    · rw [b2.1 147 (by omega) (by omega), a3.1 147 (by omega) (by omega), ht n hn]
      congr 1
      rw [decide_eq_decide]
      dsimp only
      rw [insB_mem hlt, rmv_mem]
      constructor
      · intro q
        by_cases e : n = v
        · exact Or.inl e
        · exact Or.inr ⟨q, e⟩
      · rintro (q | q)
        · rw [q]; exact h1
        · exact q.1
    · have n1 : ¬ (2 : Int32) = 0 := by decide
      have n2 : ¬ (2 : Int32) = 1 := by decide
      have g0' : s1.1 139 at' = 2 := by rw [a3.1 139 (by omega) (by omega)]; exact g0
      simp only [e114, r114_0, r114_1, r114_4, r114_5, r114_6, r114_32, r114_33, r114_36, r114_37, r114_38, r114_39, r114_57, r114_58, r114_59, r114_62, r114_63, r114_66, r114_67, r114_68, r114_69, r114_72, r114_73, r114_74, r114_75, r114_77, r114_80, r114_90, am_li0, am_liS, am_laR0, am_tN, m_oc, g121_19, a139, k1, k2, g0, g0', n1, n2, a4, b3, not_true, not_false_eq_true, if_true, if_false, am_okI, am_okR, List.length_cons, List.length_nil, Nat.reduceAdd, Nat.zero_le, Nat.reduceLeDiff, and_true, true_and]
  · obtain ⟨s1, a1, a2, a3, a4⟩ := m_out (L := L) (xs := xs) (d := d + 1) hR h h1
    generalize hs2 : w1 s1 147 v 0 = s2
    have b1 : s2.1 147 = upd (s1.1 147) v 0 := by rw [← hs2, w1_q]
    have b2 : ∀ q, q ≠ 147 → s2.1 q = s1.1 q := fun q n1 => by rw [← hs2, w1_o _ _ _ n1]
    have b3 : s2.2 = s1.2 := by rw [← hs2]; rfl
    rw [doS_3 R v (by omega)]
    refine ⟨s2, ⟨by rw [b3]; exact a1.1, by rw [b3]; exact a1.2.1, fun k hk => by rw [b2 151 (by omega)]; exact a1.2.2.1 k hk, fun n hn => by rw [b2 148 (by omega), b2 149 (by omega), b2 150 (by omega)]; exact a1.2.2.2 n hn⟩, fun n hn => ?_, ⟨fun q hq => by rw [b2 q (by omega), a3.1 q (by omega) (by omega)], fun q k _ n2 => by rw [b3, a3.2.1 q k n2], by rw [b3, a3.2.2]⟩, fun Q => ?_⟩
    · rw [b1]
      by_cases e : n = v
      · rw [e, upd_s, decide_eq_false (fun q => (rmv_mem.mp q).2 rfl)]; rfl
      · rw [upd_n _ _ e, a3.1 147 (by omega) (by omega), ht n hn]
        congr 1
        rw [decide_eq_decide]
        dsimp only
        rw [rmv_mem]
        exact ⟨fun q => ⟨q, e⟩, fun q => q.1⟩
    · have n1 : ¬ (3 : Int32) = 0 := by decide
      have n2 : ¬ (3 : Int32) = 1 := by decide
      have n3 : ¬ (3 : Int32) = 2 := by decide
      have nb0 : vp_nar .boolean 0 = 0 := rfl
      have g0' : s1.1 139 at' = 3 := by rw [a3.1 139 (by omega) (by omega)]; exact g0
      simp only [e114, r114_0, r114_1, r114_4, r114_5, r114_6, r114_32, r114_33, r114_36, r114_37, r114_38, r114_39, r114_57, r114_58, r114_59, r114_62, r114_63, r114_66, r114_67, r114_68, r114_69, r114_83, r114_84, r114_87, r114_88, r114_89, r114_90, am_li0, am_liS, am_laR0, am_tN, m_oc, g121_19, g121_30, a139, w147', k1, k2, v1, v2, g0, g0', n1, n2, n3, nb0, a4, hs2, not_true, not_false_eq_true, if_true, if_false, am_okI, am_okR, List.length_cons, List.length_nil, Nat.reduceAdd, Nat.zero_le, Nat.reduceLeDiff, and_true, true_and]
end
