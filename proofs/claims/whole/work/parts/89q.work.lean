/-! The reference's script, whole; work -/
section
variable {L : Nat} {xs : Nat → Int32} {d : Nat}
theorem m_sc_loop {j j' : Nat} {t w : Tr} {M : Pr} {X : Nat → Bool} : ∀ (r : List Nat) (k : Nat) (s : St) (Z : Zt) (v2 v3 v4 v5 : Value), k + r.length = w.1 → (∀ i, i < r.length → s.1 136 (k + i) = nI (nthL r i)) → (∀ z, z ∈ r → z < w.1) → mZ s j j' t w M X Z → (r.foldl (rf t w M X) Z).1.length ≤ 24 →
    ∃ (s' : St) (u2 u3 u4 u5 : Value), mZ s' j j' t w M X (r.foldl (rf t w M X) Z) ∧ frZ s s' ∧ ∀ Q : Option Value → am_S → Prop, am_Rn L xs (d + 1) 104 67 [.ref 121, .int (nI k), v2, v3, v4, v5] [] (mk s) Q = am_Rn L xs (d + 1) 104 358 [.ref 121, .int (nI w.1), u2, u3, u4, u5] [] (mk s') Q
  | [], k, s, Z, v2, v3, v4, v5, hk, hr, hm, hZ, hl => by
    have hZ' := hZ
    obtain ⟨⟨hj, hj', q1, q2, q3, q4, hM, hp, hw, hw'⟩, hX, hs, hi, hsd⟩ := hZ
    have h12' := hw'.1
    have e : k = w.1 := hk
    subst e
    refine ⟨s, v2, v3, v4, v5, hZ', frZ_r s, fun Q => ?_⟩
    have h1 : nI w.1 ≤ nI w.1 := nI_le (Nat.le_refl _) (by omega)
    have j3 : am_in (nI j') 4 = true := in_of (by omega) (by decide)
    have j4 : (nI j').toNatClampNeg = j' := nI_clamp (by omega)
    rw [r104_67]
    simp only [r104_68, r104_69, r104_72, r104_73, r104_76, r104_77, am_li0, am_liS, am_laR0, g121_0, g121_17, a122, q4, j3, j4, q2.1, h1, if_true, true_and]
  | y :: r, k, s, Z, v2, v3, v4, v5, hk, hr, hm, hZ, hl => by
    rw [List.length_cons] at hk
    rw [List.foldl_cons] at hl ⊢
    obtain ⟨s1, b2, b3, b4, b5, a1, a2, a3, a4⟩ := m_node1 (L := L) (xs := xs) (d := d) (v2 := v2) (v3 := v3) (v4 := v4) (v5 := v5) hZ (show k < w.1 by omega) (hm y List.mem_cons_self) (hr 0 (by rw [List.length_cons]; omega)) (Nat.le_trans (rf_mono r _) hl)
    obtain ⟨s2, u2, u3, u4, u5, c1, c2, c3⟩ := m_sc_loop r (k + 1) s1 _ b2 b3 b4 b5 (by omega) (fun i hi => by
      have := hr (i + 1) (by rw [List.length_cons]; omega)
      rw [nthL_s] at this
      rw [a3, show k + 1 + i = k + (i + 1) by omega]
      exact this) (fun z hz => hm z (List.mem_cons_of_mem _ hz)) a1 hl
    exact ⟨s2, u2, u3, u4, u5, c1, frZ_t a2 c2, fun Q => by rw [a4 Q, c3 Q]⟩
theorem m_dl_loop {j j' : Nat} {t w : Tr} {M : Pr} {X : Nat → Bool} {v2 v3 v4 v5 : Value} : ∀ (m : Nat) (s : St) (Z : Zt), m ≤ t.1 → mZ s j j' t w M X Z → (Z.1 ++ dlF M m).length ≤ 24 →
    ∃ s' : St, mZ s' j j' t w M X (Z.1 ++ dlF M m, Z.2) ∧ frZ s s' ∧ ∀ Q : Option Value → am_S → Prop, am_Rn L xs (d + 1) 104 370 [.ref 121, .int (nI m - 1), v2, v3, v4, v5] [] (mk s) Q = Q none (mk s')
  | 0, s, Z, hm, hZ, hl => by
    refine ⟨s, by rw [show dlF M 0 = [] from rfl, List.append_nil]; exact hZ, frZ_r s, fun Q => ?_⟩
    have e0 : nI 0 - 1 < 0 := by decide
    rw [r104_370]
    simp only [r104_371, r104_399, am_li0, am_liS, e0, if_true]
  | m + 1, s, Z, hm, hZ, hl => by
    have hZ' := hZ
    obtain ⟨⟨hj, hj', q1, q2, q3, q4, hM, hp, hw, hw'⟩, hX, hs, hi, hsd⟩ := hZ
    have h12 := hw.1
    have h12' := hw'.1
    have e0 : ¬ nI m < 0 := nI_pos (by omega)
    have k1 : am_in (nI m) 12 = true := in_of (by omega) (by decide)
    have k2 : (nI m).toNatClampNeg = m := nI_clamp (by omega)
    have em := (hM m (by omega)).1
    have e9 : nI m + -1 = nI m - 1 := by rw [Int32.sub_eq_add_neg]
    rw [dlF_s] at hl ⊢
    cases ho : M.1 m with
    | none =>
      rw [ho, oI_none] at em
      rw [ho, dlO_n] at hl
      rw [dlO_n, ← List.append_assoc]
      rw [← List.append_assoc] at hl
      have c1 : ¬ (0 : Int32) ≤ -1 := by decide
      obtain ⟨s1, a1, a2, a3⟩ := m_put (L := L) (xs := xs) (d := d) hs (by rw [List.length_append, List.length_append, List.length_cons, List.length_nil] at hl; omega) 3 (nI m) (-1) (-1) (-1) 0
      obtain ⟨s2, b1, b2, b3⟩ := m_dl_loop (v2 := v2) (v3 := v3) (v4 := v4) (v5 := v5) m s1 _ (by omega) (mZ_U hZ' a2 a1) hl
      refine ⟨s2, b1, frZ_t (frU_Z a2) b2, fun Q => ?_⟩
      rw [← b3 Q, nI_pred, r104_370]
      simp only [r104_371, r104_374, r104_375, r104_378, r104_379, r104_380, r104_383, r104_384, r104_385, r104_386, r104_387, r104_388, r104_389, r104_390, r104_393, r104_396, am_li0, am_liS, am_laR0, am_tN, m_oc, g121_4, a126, k1, k2, e0, em, e9, c1, a3, if_false, am_okI, am_okR, List.length_cons, List.length_nil, List.set_cons_succ, List.set_cons_zero, Nat.reduceAdd, Nat.reduceLT, Nat.zero_le, Nat.reduceLeDiff, and_true, true_and]
    | some y =>
      have hyw := (hp.1 m y ho).2
      have c1 : (0 : Int32) ≤ nI y := nI_le (a := 0) (Nat.zero_le _) (by omega)
      rw [ho, oI_some] at em
      rw [ho, dlO_s, List.nil_append] at hl
      rw [dlO_s, List.nil_append]
      obtain ⟨s2, b1, b2, b3⟩ := m_dl_loop (v2 := v2) (v3 := v3) (v4 := v4) (v5 := v5) m s Z (by omega) hZ' hl
      refine ⟨s2, b1, b2, fun Q => ?_⟩
      rw [← b3 Q, nI_pred, r104_370]
      simp only [r104_371, r104_374, r104_375, r104_378, r104_379, r104_380, r104_393, r104_396, am_li0, am_liS, am_laR0, g121_4, a126, k1, k2, e0, em, e9, c1, if_true, if_false, List.length_cons, List.length_nil, List.set_cons_succ, List.set_cons_zero, Nat.reduceAdd, Nat.reduceLT, Nat.zero_le, Nat.reduceLeDiff, and_true, true_and]
theorem m_script {s : St} {j j' : Nat} {t w : Tr} {M : Pr} (hD : mD s j j' t w M) (hlo : ∀ x y, x < 12 → y < 12 → s.1 130 (12 * x + y) = bI (LF w x y)) (hI : mI M) (hu : 0 < w.1) :
    ∃ (s' : St) (X : Nat → Bool), sT t w M t.1 X ∧ msc s' 0 (scr t w M X) ∧ s'.1 145 0 = nI (scI t w M X) ∧ frZ s s' ∧ ∀ Q : Option Value → am_S → Prop, am_Call L xs (d + 1) 104 [.ref 121] (mk s) Q = Q none (mk s') := by
  have hw : tW t := hD.2.2.2.2.2.2.2.2.1
  have hw' : tW w := hD.2.2.2.2.2.2.2.2.2
  have hp : pW t w M := hD.2.2.2.2.2.2.2.1
  have h12 := hw.1
  have h12' := hw'.1
  obtain ⟨s1, X, a1, a2, a3, a4, a5, a6, a7⟩ := m_sc_first (L := L) (xs := xs) (d := d) hD
  have f1 : fzM s s1 := ⟨fun q hq => a5 q (by omega) (by omega) (by omega) (by omega), a6⟩
  have z1 : frZ s s1 := ⟨f1.1, fun q k h1 h2 _ => by rw [a5 q (by omega) (by omega) (by omega) (by omega)], fun k hk => ⟨by rw [a3, upd_n _ _ (by omega)], by rw [a4, upd_n _ _ (by omega)]⟩, a6⟩
  have hD1 := mD_fr f1 hD
  have hW1 : mW s1 j' w := ⟨hD1.2.1, hD1.2.2.2.1, hD1.2.2.2.2.2.1, hw', fun x y hx hy => by rw [a5 130 (by omega) (by omega) (by omega) (by omega)]; exact hlo x y hx hy⟩
  obtain ⟨s2, b1, b2, b3, b4⟩ := m_walk (L := L) (xs := xs) (d := d) hW1 hu
  have z2 : frZ s1 s2 := ⟨fun q hq => b2 q (by omega) (by omega), fun q k h1 h2 _ => by rw [b2 q (by omega) (by omega)], fun k hk => ⟨by rw [b2 138 (by omega) (by omega)], by rw [b2 145 (by omega) (by omega)]⟩, b3⟩
  have hZ2 : mZ s2 j j' t w M X ([], 0, s2.1 135) := ⟨mD_fr (frZ_M z2) hD1, fun x hx => by rw [b2 134 (by omega) (by omega)]; exact a1 x hx, ⟨by rw [b2 138 (by omega) (by omega), a3, upd_s]; rfl, fun k p hk => by cases hk⟩, by rw [b2 145 (by omega) (by omega), a4, upd_s]; rfl, fun _ _ => rfl⟩
  have hlen : (rowL w w.1).length = w.1 := rowL_len hw' hu (Nat.le_refl _)
  obtain ⟨c1, c2, -⟩ := rf_cw (t := t) (M := M) (X := X) hw' 13 0 ([], 0, s2.1 135) hu (by omega)
  have e0 : lsN w (s2.1 135) (w.2.1 0) 0 = -1 := rfl
  have e1 : unN w (s2.1 135) 0 = -1 := if_pos rfl
  dsimp only at c1 c2
  rw [e0, e1] at c1 c2
  obtain ⟨l1, l2⟩ := scr_len (X := X) hw hw' hu hI hp
  have l3 := l1
  unfold scr at l3
  rw [List.length_append, ← c1] at l3
  have l4 : ((rowL w w.1).foldl (rf t w M X) ([], 0, s2.1 135)).1.length + (dlF M t.1).length ≤ 24 := l3
  obtain ⟨s3, u2, u3, u4, u5, d1, d2, d3⟩ := m_sc_loop (L := L) (xs := xs) (d := d) (rowL w w.1) 0 s2 ([], 0, s2.1 135) (.retAddr 0) (.retAddr 0) (.retAddr 0) (.retAddr 0) (by omega) (fun i hi => by rw [Nat.zero_add]; exact b1 i (by omega)) (fun z hz => rowL_mem hw' hu (Nat.le_refl _) hz) hZ2 (by omega)
  obtain ⟨s4, g1, g2, g3⟩ := m_dl_loop (L := L) (xs := xs) (d := d) (v2 := u2) (v3 := u3) (v4 := u4) (v5 := u5) t.1 s3 _ (Nat.le_refl _) d1 (by rw [List.length_append]; exact l4)
  refine ⟨s4, X, a2, ?_, ?_, frZ_t z1 (frZ_t z2 (frZ_t d2 g2)), fun Q => ?_⟩
  · have := g1.2.2.1
    dsimp only at this
    unfold scr
    rw [← c1]
    exact this
  · have := g1.2.2.2.1
    dsimp only at this
    unfold scI
    rw [← c2]
    exact this
  · have d3 : am_Rn L xs (d + 1) 104 67 [.ref 121, .int 0, .retAddr 0, .retAddr 0, .retAddr 0, .retAddr 0] [] (mk s2) Q = _ := d3 Q
    have q3 := d1.1.2.2.2.2.1
    have q1 := d1.1.2.2.1.1
    have hj := d1.1.1
    have j1 : am_in (nI j) 4 = true := in_of (by omega) (by decide)
    have j2 : (nI j).toNatClampNeg = j := nI_clamp (by omega)
    rw [a7 Q]
    simp only [r104_61, r104_62, r104_65, r104_66, am_li0, am_liS, am_laR0, am_tN, m_oc, b4, List.length_cons, List.length_nil, List.set_cons_succ, List.set_cons_zero, Nat.reduceAdd, Nat.reduceLT, Nat.zero_le, Nat.reduceLeDiff, and_true, true_and]
    rw [d3, ← g3 Q]
    simp only [r104_358, r104_359, r104_362, r104_363, r104_366, r104_367, r104_368, r104_369, am_li0, am_liS, am_laR0, g121_0, g121_16, a122, q3, q1, j1, j2, List.length_cons, List.length_nil, List.set_cons_succ, List.set_cons_zero, Nat.reduceAdd, Nat.reduceLT, Nat.zero_le, Nat.reduceLeDiff, and_true, true_and]
/-- what work may change -/
def frX (s s' : St) : Prop := (∀ q, ¬ (126 ≤ q ∧ q ≤ 145) → s'.1 q = s.1 q) ∧ (∀ q k, 139 ≤ q → q ≤ 144 → 40 ≤ k → s'.1 q k = s.1 q k) ∧ (∀ k, 0 < k → s'.1 138 k = s.1 138 k ∧ s'.1 145 k = s.1 145 k) ∧ (∀ q k, ¬ (q = 121 ∧ k = 16) → ¬ (q = 121 ∧ k = 17) → s'.2.1 q k = s.2.1 q k) ∧ s'.2.2 = s.2.2
theorem frX_t {s s1 s2 : St} (h : frX s s1) (h' : frX s1 s2) : frX s s2 := ⟨fun q hq => (h'.1 q hq).trans (h.1 q hq), fun q k a1 a2 a3 => (h'.2.1 q k a1 a2 a3).trans (h.2.1 q k a1 a2 a3), fun k hk => ⟨(h'.2.2.1 k hk).1.trans (h.2.2.1 k hk).1, (h'.2.2.1 k hk).2.trans (h.2.2.1 k hk).2⟩, fun q k a1 a2 => (h'.2.2.2.1 q k a1 a2).trans (h.2.2.2.1 q k a1 a2), h'.2.2.2.2.trans h.2.2.2.2⟩
theorem v121_16' {s : St} {y o : Nat} {x : Int32} {f : am_S → Prop} : am_wf y o (mk s) 121 6 16 (.int x) f = f (mk (w2 s 121 16 x)) := v121_16
theorem v121_17' {s : St} {y o : Nat} {x : Int32} {f : am_S → Prop} : am_wf y o (mk s) 121 6 17 (.int x) f = f (mk (w2 s 121 17 x)) := v121_17
theorem m_work {s : St} {j j' : Nat} {t w : Tr} {H : Nat → Nat} (h : j < 3) (h' : j' < 3) (hw : tW t) (hw' : tW w) (hH : hP t H) (q1 : mT s j t) (q2 : mT s j' w) (ht : 0 < t.1) (hu : 0 < w.1) :
    ∃ (s' : St) (M : Pr) (X : Nat → Bool), (prt t w H M ∧ pW t w M) ∧ sT t w M t.1 X ∧ msc s' 0 (scr t w M X) ∧ s'.1 145 0 = nI (scI t w M X) ∧ pM (s'.1 126) (s'.1 127) M ∧ frX s s' ∧ ∀ Q : Option Value → am_S → Prop, am_Call L xs (d + 5) 94 [.ref 121, .int (nI j), .int (nI j')] (mk s) Q = Q none (mk s') := by
  generalize hs1 : w2 (w2 s 121 16 (nI j)) 121 17 (nI j') = s1
  have o1 : s1.1 = s.1 := by rw [← hs1]; rfl
  have o2 : s1.2.1 121 16 = nI j := by rw [← hs1, w2_o _ _ (by omega), w2_a]
  have o3 : s1.2.1 121 17 = nI j' := by rw [← hs1, w2_a]
  have o4 : ∀ q k, ¬ (q = 121 ∧ k = 16) → ¬ (q = 121 ∧ k = 17) → s1.2.1 q k = s.2.1 q k := fun q k n1 n2 => by rw [← hs1, w2_o _ _ n2, w2_o _ _ n1]
  have o5 : s1.2.2 = s.2.2 := by rw [← hs1]; rfl
  have f1 : frX s s1 := ⟨fun q _ => by rw [o1], fun q k _ _ _ => by rw [o1], fun k _ => ⟨by rw [o1], by rw [o1]⟩, o4, o5⟩
  obtain ⟨s2, M, a1, a2, a3, a4⟩ := m_partners (L := L) (xs := xs) (d := d) (s := s1) h h' hw hw' hH (mT_congr (fun q _ _ => by rw [o1]) q1) (mT_congr (fun q _ _ => by rw [o1]) q2) o2 o3 ht hu
  have f2 : frX s1 s2 := ⟨fun q hq => a3.1 q (by omega), fun q k g1 g2 _ => by rw [a3.1 q (by omega)], fun k _ => ⟨by rw [a3.1 138 (by omega)], by rw [a3.1 145 (by omega)]⟩, fun q k _ _ => by rw [a3.2], by rw [a3.2]⟩
  obtain ⟨⟨-, -, m1, m2, m3, m4, -, mlk⟩, -, mM, mp, -, -⟩ := a1
  obtain ⟨s3, X, b1, b2, b3, b4, b5⟩ := m_script (L := L) (xs := xs) (d := d + 3) (s := s2) (j := j) (j' := j') (t := t) (w := w) (M := M) ⟨h, h', m1, m2, m3, m4, mM, mp, hw, hw'⟩ (fun x y hx hy => (mlk.1 x y hx hy (Or.inl hx)).2) (prt_I hw hw' hH a2) hu
  have f3 : frX s2 s3 := ⟨fun q hq => b4.1 q (by omega), b4.2.1, b4.2.2.1, fun q k _ _ => by rw [b4.2.2.2], by rw [b4.2.2.2]⟩
  refine ⟨s3, M, X, ⟨a2, mp⟩, b1, b2, b3, by rw [b4.1 126 (by omega), b4.1 127 (by omega)]; exact mM, frX_t f1 (frX_t f2 f3), fun Q => ?_⟩
  simp only [e94, r94_0, r94_1, r94_2, r94_5, r94_6, r94_7, r94_10, r94_11, r94_14, r94_15, r94_18, am_li0, am_liS, am_laR0, am_tN, m_oc, v121_16', v121_17', hs1, a4, b5, List.length_nil, Nat.zero_le, and_true, true_and]
end
