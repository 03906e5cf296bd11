/-! add, clear, size, height, alike, on three trees -/
/-- both sides hold the same three trees -/
def tI (s : St) (T : Nat → Tr) : Prop := ∀ j, j < 3 → tW (T j) ∧ cT s (2 + 5 * j) (T j) ∧ mT s j (T j)
/-- what these calls leave as it was -/
def fr5 (s s' : St) : Prop := (∀ q, 17 < q → ¬ (122 ≤ q ∧ q ≤ 125) → q ≠ 128 → s'.1 q = s.1 q) ∧ (∀ t : Tr, t.1 ≤ 12 → mT s 3 t → mT s' 3 t) ∧ (∀ q k, q ≠ 2 → q ≠ 7 → q ≠ 12 → s'.2.1 q k = s.2.1 q k) ∧ s'.2.2 = s.2.2
theorem fr5_refl (s : St) : fr5 s s := ⟨fun _ _ _ _ => rfl, fun _ _ h => h, fun _ _ _ _ _ => rfl, rfl⟩
theorem cT_congr {s s' : St} {p : Nat} {t : Tr} (h1 : ∀ q, p < q → q < p + 5 → s'.1 q = s.1 q) (h2 : s'.2.1 p 4 = s.2.1 p 4) (hc : cT s p t) : cT s' p t := by
  unfold cT
  rw [h1 (p + 1) (by omega) (by omega), h1 (p + 2) (by omega) (by omega), h1 (p + 3) (by omega) (by omega), h1 (p + 4) (by omega) (by omega), h2]
  exact hc
theorem mT_congr {s s' : St} {j : Nat} {t : Tr} (h1 : ∀ q, 122 ≤ q → q ≤ 125 → s'.1 q = s.1 q) (hm : mT s j t) : mT s' j t := by
  unfold mT
  rw [h1 122 (by omega) (by omega), h1 123 (by omega) (by omega), h1 124 (by omega) (by omega), h1 125 (by omega) (by omega)]
  exact hm
/-- a changed tree -/
def tS (T : Nat → Tr) (j : Nat) (t : Tr) : Nat → Tr := fun i => if i = j then t else T i
theorem tree_or (a : Int32) : (a < 0 ∨ 3 ≤ a) ∨ ∃ j, j < 3 ∧ a = nI j := by
  rcases pk_ix a (n := 3) (by decide) with q | q | q
  · exact Or.inl (Or.inl q)
  · exact Or.inl (Or.inr q)
  · exact Or.inr q
section
variable {L : Nat} {xs : Nat → Int32} {s : St} {T : Nat → Tr}
theorem ok_add (h : tI s T) (a b c e : Int32) : op_ok L xs 7 84 [.int a, .int b, .int c, .int e] s (fun s2 => (∃ T', tI s2 T') ∧ fr5 s s2) := by
  have same : (∃ T', tI s T') ∧ fr5 s s := ⟨⟨T, h⟩, fr5_refl s⟩
  rcases tree_or a with ha | ⟨j, hj, rfl⟩
  · exact ⟨-1, s, s, fun Q q => by rw [c_add0T (d := 97) ha]; exact q, fun Q q => by rw [m_add0T (d := 97) ha]; exact q, same⟩
  · obtain ⟨hw, hc, hm⟩ := h j hj
    by_cases hk : c < 0 ∨ ¬ c < 8
    · exact ⟨-1, s, s, fun Q q => by rw [c_add0K (d := 97) hj hk]; exact q, fun Q q => by rw [m_add0K (d := 97) hj hk]; exact q, same⟩
    · have hx : ¬ c < 0 := fun q => hk (Or.inl q)
      have hx8 : c < 8 := Classical.not_not.mp fun q => hk (Or.inr q)
      by_cases hf : tFit (T j) b ∧ (T j).1 < 12
      · obtain ⟨s1, r1, c1, f1⟩ := c_addOk (L := L) (xs := xs) (d := 97) hj hc hw hf.2 hf.1 hx hx8 (l := e)
        have m1 : ∀ (i : Nat) (w : Tr), mT s i w → mT s1 i w := fun i w hq => mT_congr (fun q q1 q2 => f1.1 q (by omega)) hq
        obtain ⟨s2, r2, c2, f2, f3⟩ := m_addOk (L := L) (xs := xs) (d := 97) hj (m1 j _ hm) hw hf.2 hf.1 hx hx8 (l := e)
        refine ⟨nI (T j).1, s1, s2, fun Q q => by rw [r1]; exact q, fun Q q => by rw [r2]; exact q, ⟨tS T j (tAdd (T j) b c e), fun i hi => ?_⟩, fun q q1 q2 q3 => ?_, fun t ht hq => ?_, fun q k q1 q2 q3 => ?_, ?_⟩
        · unfold tS
          by_cases e1 : i = j
          · rw [if_pos e1, e1]
            exact ⟨tAdd_W hw hf.2 hf.1 c e, cT_congr (fun q q1 q2 => f2.1 q (by omega)) (by rw [f2.2]) c1, c2⟩
          · rw [if_neg e1]
            obtain ⟨g1, g2, g3⟩ := h i hi
            refine ⟨g1, cT_congr (fun q q1 q2 => ?_) ?_ g2, f3 i _ e1 g1.1 (m1 i _ g3)⟩
            · rw [f2.1 q (by omega), f1.1 q (by omega)]
            · rw [f2.2, f1.2.1 _ _ (by omega)]
        · rw [f2.1 q q2, f1.1 q (by omega)]
        · exact f3 3 t (by omega) ht (m1 3 t hq)
        · rw [f2.2, f1.2.1 q k (by omega)]
        · rw [f2.2, f1.2.2]
      · exact ⟨-1, s, s, fun Q q => by rw [c_addNo (d := 97) hj hc hw hx hx8 hf]; exact q, fun Q q => by rw [m_addNo (d := 97) hj hm hw hx hx8 hf]; exact q, same⟩
theorem ok_clear (h : tI s T) (a : Int32) : op_ok L xs 14 87 [.int a] s (fun s2 => (∃ T', tI s2 T') ∧ fr5 s s2) := by
  have same : (∃ T', tI s T') ∧ fr5 s s := ⟨⟨T, h⟩, fr5_refl s⟩
  rcases tree_or a with ha | ⟨j, hj, rfl⟩
  · exact ⟨0, s, s, fun Q q => by rw [c_clear0 (d := 97) ha]; exact q, fun Q q => by rw [m_clear0 (d := 98) ha]; exact q, same⟩
  · have r1 : ∀ Q : Option Value → am_S → Prop, am_Call L xs (97 + 2) 14 [.ref 0, .int (nI j)] (mk s) Q = _ := fun Q => c_clear1 (L := L) (xs := xs) (d := 97) (s := s) (Q := Q) hj
    generalize hs1 : ((va_up s.1 (2 + 5 * j + 1) (fil 12 (-2) (s.1 (2 + 5 * j + 1))), am_u2 s.2.1 (2 + 5 * j) 4 0, s.2.2) : St) = s1 at r1
    have r2 : ∀ Q : Option Value → am_S → Prop, am_Call L xs (98 + 1) 87 [.ref 121, .int (nI j)] (mk s1) Q = _ := fun Q => m_clear1 (L := L) (xs := xs) (d := 98) (s := s1) (Q := Q) hj
    generalize hs2 : ((va_up s1.1 122 (upd (s1.1 122) j 0), s1.2) : St) = s2 at r2
    have a1 : ∀ q, q ≠ 2 + 5 * j + 1 → s1.1 q = s.1 q := fun q hq => by rw [← hs1]; exact up_ne _ _ hq
    have a2 : ∀ q, q ≠ 122 → s2.1 q = s1.1 q := fun q hq => by rw [← hs2]; exact up_ne _ _ hq
    have a3 : s2.1 122 = upd (s.1 122) j 0 := by rw [← hs2]; dsimp only; rw [up_same, a1 122 (by omega)]
    have a4 : s2.2 = s1.2 := by rw [← hs2]
    have a5 : s2.1 (2 + 5 * j + 1) = fil 12 (-2) (s.1 (2 + 5 * j + 1)) := by rw [a2 _ (by omega), ← hs1]; exact up_same _ _ _
    have a6 : s2.2.1 (2 + 5 * j) 4 = 0 := by rw [a4, ← hs1]; exact u2_same _ _ _ _
    have a7 : ∀ q k, q ≠ 2 + 5 * j → s2.2.1 q k = s.2.1 q k := fun q k hq => by rw [a4, ← hs1]; exact u2_ne _ _ (fun e => hq e.1)
    have a8 : ∀ q, q ≠ 2 + 5 * j + 1 → q ≠ 122 → s2.1 q = s.1 q := fun q h1 h2 => by rw [a2 q h2, a1 q h1]
    have hmt : ∀ (i : Nat) (w : Tr), i ≠ j → mT s i w → mT s2 i w := by
      intro i w hi hm
      unfold mT
      rw [a3, upd_n _ _ hi, a8 123 (by omega) (by omega), a8 124 (by omega) (by omega), a8 125 (by omega) (by omega)]
      exact hm
    refine ⟨1, s1, s2, fun Q q => (r1 Q).mpr q, fun Q q => (r2 Q).mpr q, ⟨tS T j (0, (T j).2), fun i hi => ?_⟩, fun q q1 q2 q3 => a8 q (by omega) (by omega), fun t ht hq => hmt 3 t (by omega) hq, fun q k q1 q2 q3 => a7 q k (by omega), ?_⟩
    · unfold tS
      obtain ⟨g1, g2, g3⟩ := h i hi
      by_cases e1 : i = j
      · rw [if_pos e1, e1]
        refine ⟨⟨Nat.zero_le _, fun n hn => absurd hn (Nat.not_lt_zero _)⟩, ⟨a6, fun n hn => absurd hn (Nat.not_lt_zero _), fun n _ hn => ?_⟩, ?_, fun n hn => absurd hn (Nat.not_lt_zero _)⟩
        · rw [a5]
          unfold fil
          rw [if_pos hn]
        · rw [a3, upd_s]; rfl
      · rw [if_neg e1]
        exact ⟨g1, cT_congr (fun q q1 q2 => a8 q (by omega) (by omega)) (a7 _ _ (by omega)) g2, hmt i _ e1 g3⟩
    · rw [a4, ← hs1]
theorem ok_size (h : tI s T) (a : Int32) : op_ok L xs 16 88 [.int a] s (fun s2 => (∃ T', tI s2 T') ∧ fr5 s s2) := by
  have same : (∃ T', tI s T') ∧ fr5 s s := ⟨⟨T, h⟩, fr5_refl s⟩
  rcases tree_or a with ha | ⟨j, hj, rfl⟩
  · exact ⟨-1, s, s, fun Q q => by rw [c_size0 (d := 98) ha]; exact q, fun Q q => by rw [m_size0 (d := 98) ha]; exact q, same⟩
  · obtain ⟨hw, hc, hm⟩ := h j hj
    exact ⟨nI (T j).1, s, s, fun Q q => by rw [c_size1 (d := 98) hj, hc.1]; exact q, fun Q q => by rw [m_size1 (d := 98) hj, hm.1]; exact q, same⟩
/-- a store where only one array has changed, which no tree lies in -/
theorem tI_up {q : Nat} {g : Nat → Int32} (hq : q = 17 ∨ q = 128) (h : tI s T) : tI (va_up s.1 q g, s.2) T := by
  intro i hi
  obtain ⟨g1, g2, g3⟩ := h i hi
  exact ⟨g1, cT_congr (fun q' q1 q2 => up_ne _ _ (by omega)) rfl g2, mT_congr (fun q' q1 q2 => up_ne _ _ (by omega)) g3⟩
theorem fr5_up {q : Nat} {g : Nat → Int32} (hq : q = 17 ∨ q = 128) : fr5 s (va_up s.1 q g, s.2) :=
  ⟨fun q' q1 q2 q3 => up_ne _ _ (by omega), fun t _ hm => mT_congr (fun q' q1 q2 => up_ne _ _ (by omega)) hm, fun _ _ _ _ _ => rfl, rfl⟩
theorem ok_height (h : tI s T) (a b : Int32) : op_ok L xs 17 89 [.int a, .int b] s (fun s2 => (∃ T', tI s2 T') ∧ fr5 s s2) := by
  have same : (∃ T', tI s T') ∧ fr5 s s := ⟨⟨T, h⟩, fr5_refl s⟩
  rcases tree_or a with ha | ⟨j, hj, rfl⟩
  · exact ⟨-1, s, s, fun Q q => by rw [c_height0 (d := 98) (Or.inl ha)]; exact q, fun Q q => by rw [m_height0 (d := 97) (Or.inl ha)]; exact q, same⟩
  · obtain ⟨hw, hc, hm⟩ := h j hj
    by_cases hb : ∃ i, i < (T j).1 ∧ b = nI i
    · obtain ⟨n, hn, rfl⟩ := hb
      obtain ⟨H, hH, hr⟩ := c_height1 (L := L) (xs := xs) (d := 97) hj hc hw hn
      have h' := tI_up (q := 17) (g := nA H (s.1 17)) (Or.inl rfl) h
      exact ⟨nI (H n), _, _, fun Q q => by rw [hr]; exact q, fun Q q => by rw [m_height1 (d := 97) hj (h' j hj).2.2 hw hH hn]; exact q, ⟨T, h'⟩, fr5_up (Or.inl rfl)⟩
    · exact ⟨-1, s, s, fun Q q => by rw [c_height2 (d := 97) hj hc hw hb]; exact q, fun Q q => by rw [m_height2 (d := 97) hj hm hw hb]; exact q, same⟩
theorem m_alikeB {d : Nat} {Q : Option Value → am_S → Prop} {j : Nat} {t : Tr} (h : j < 3) (hm : mT s j t) (hw : tW t) {b c e : Int32} (hc : c < 0 ∨ 3 ≤ c) : am_Call L xs (d + 2) 90 [.ref 121, .int (nI j), .int b, .int c, .int e] (mk s) Q = Q (some (.int 0)) (mk s) := by
  have n1 : ¬ (1 : Int32) = 0 := by decide
  by_cases hx : ∃ i, i < t.1 ∧ b = nI i
  · simp only [e90, r90_0, r90_1, r90_2, r90_3, r90_6, r90_9, r90_10, r90_11, r90_13, r90_16, r90_19, r90_20, am_li0, am_liS, am_laR0, m_oc, m_isNodeT h hm.1 hw.1 hx, m_isNode0 (Or.inl hc), n1, am_tL, am_okI, not_true, if_true, if_false, true_or, eq_self, List.length_nil, Nat.zero_le, and_true, true_and]
  · simp only [e90, r90_0, r90_1, r90_2, r90_3, r90_6, r90_9, r90_10, r90_11, r90_13, r90_16, r90_19, r90_20, am_li0, am_liS, am_laR0, m_oc, m_isNodeF h hm.1 hw.1 hx, am_tL, am_okI, if_true, true_or, eq_self, List.length_nil, Nat.zero_le, and_true, true_and]
theorem ok_alike (h : tI s T) (a b c e : Int32) : op_ok L xs 19 90 [.int a, .int b, .int c, .int e] s (fun s2 => (∃ T', tI s2 T') ∧ fr5 s s2) := by
  have same : (∃ T', tI s T') ∧ fr5 s s := ⟨⟨T, h⟩, fr5_refl s⟩
  rcases tree_or a with ha | ⟨j, hj, rfl⟩
  · exact ⟨0, s, s, fun Q q => by rw [c_alike0 (d := 97) (Or.inl ha)]; exact q, fun Q q => by rw [m_alike0 (d := 97) (Or.inl ha)]; exact q, same⟩
  · obtain ⟨hw, hc, hm⟩ := h j hj
    rcases tree_or c with ha | ⟨i, hi, rfl⟩
    · exact ⟨0, s, s, fun Q q => by rw [c_alike0 (d := 97) (Or.inr (Or.inl ha))]; exact q, fun Q q => by rw [m_alikeB (d := 97) hj hm hw ha]; exact q, same⟩
    · obtain ⟨hw', hc', hm'⟩ := h i hi
      by_cases hb : (∃ x, x < (T j).1 ∧ b = nI x) ∧ ∃ x, x < (T i).1 ∧ e = nI x
      · obtain ⟨⟨x, hx, rfl⟩, y, hy, rfl⟩ := hb
        obtain ⟨g, hr⟩ := m_alike1 (L := L) (xs := xs) (d := 97) hj hi hm hm' hw hw' hx hy
        exact ⟨bI (alN (T j) (T i) x y), s, _, fun Q q => by rw [c_alike1 (d := 56) hj hi hc hc' hw hw' hx hy]; exact q, fun Q q => by rw [hr]; exact q, ⟨T, tI_up (Or.inr rfl) h⟩, fr5_up (Or.inr rfl)⟩
      · exact ⟨0, s, s, fun Q q => by rw [c_alikeN (d := 56) hj hi hc hc' hw hw' hb]; exact q, fun Q q => by rw [m_alikeN (d := 97) hj hi hm hm' hw hw' hb]; exact q, same⟩
end
