/-! The class's partners, whole -/
/-- what find leaves as it was -/
def frN (P : Nat) (s s' : St) : Prop := (∀ q, ¬ (P < q ∧ q < P + 7) → s'.1 q = s.1 q) ∧ s'.2.1 = s.2.1 ∧ ∀ q k, q ≠ P → s'.2.2 q k = s.2.2 q k
section
variable {L : Nat} {xs : Nat → Int32} {d : Nat} {s : St}
theorem p_v6 {P : Nat} (h : isP P) {y o x : Nat} {f : am_S → Prop} : am_wf y o (mk s) P 3 6 (.ref x) f = f (mk (s.1, s.2.1, am_u2 s.2.2 P 6 x)) := am_k_wG (sk := in_sk) h.1 rfl rfl (fun h => by cases h)
theorem p_v7 {P : Nat} (h : isP P) {y o x : Nat} {f : am_S → Prop} : am_wf y o (mk s) P 3 7 (.ref x) f = f (mk (s.1, s.2.1, am_u2 s.2.2 P 7 x)) := am_k_wG (sk := in_sk) h.1 rfl rfl (fun h => by cases h)
theorem c_find {P a b : Nat} {t w : Tr} (hPP : isP P) (hA : isF a 12) (hB : isF b 12) (ha : a + 5 ≤ P) (hb : b + 5 ≤ P) (c1 : cT s a t) (c2 : cT s b w) (hw : tW t) (hw' : tW w) (ht : 0 < t.1) (hu : 0 < w.1) :
    ∃ (s' : St) (H : Nat → Nat) (M : Pr), hP t H ∧ cQ s' P a b t w H M ∧ prt t w H M ∧ frN P s s' ∧ ∀ Q : Option Value → am_S → Prop, am_Call L xs (d + 44) 25 [.ref P, .ref a, .ref b] (mk s) Q = Q none (mk s') := by
  have h12 := hw.1
  -- from, to, no partners
  generalize hs1 : ((va_up (va_up s.1 (P + 1) (fil 12 (-1) (s.1 (P + 1)))) (P + 2) (fil 12 (-1) (s.1 (P + 2))), s.2.1, am_u2 (am_u2 s.2.2 P 6 a) P 7 b) : St) = s1
  have f1 : ∀ q, q ≠ P + 1 → q ≠ P + 2 → s1.1 q = s.1 q := fun q n1 n2 => by rw [← hs1]; dsimp only; rw [up_ne _ _ n2, up_ne _ _ n1]
  have f1a : s1.1 (P + 1) = fil 12 (-1) (s.1 (P + 1)) := by rw [← hs1]; dsimp only; rw [up_ne _ _ (by omega), up_same]
  have f1b : s1.1 (P + 2) = fil 12 (-1) (s.1 (P + 2)) := by rw [← hs1]; dsimp only; rw [up_same]
  have f1c : s1.2.1 = s.2.1 := by rw [← hs1]
  have f1d : s1.2.2 P 6 = a := by rw [← hs1]; dsimp only; rw [u2_ne _ _ (by omega), u2_same]
  have f1e : s1.2.2 P 7 = b := by rw [← hs1]; exact u2_same _ _ _ _
  have f1f : ∀ q k, q ≠ P → s1.2.2 q k = s.2.2 q k := fun q k hq => by rw [← hs1]; dsimp only; rw [u2_ne _ _ (by omega), u2_ne _ _ (by omega)]
  have ca : cT s1 a t := cT_congr (fun q z1 z2 => f1 q (by omega) (by omega)) (by rw [f1c]) c1
  have cb : cT s1 b w := cT_congr (fun q z1 z2 => f1 q (by omega) (by omega)) (by rw [f1c]) c2
  obtain ⟨H, hH, r2⟩ := c_mh (L := L) (xs := xs) (d := d + 42) hA ca hw ht (hPP.2 3 (by decide) (by decide)) (by omega) (by omega)
  generalize hs2 : ((va_up s1.1 (P + 3) (nA H (s1.1 (P + 3))), s1.2) : St) = s2 at r2
  have f2 : ∀ q, q ≠ P + 3 → s2.1 q = s1.1 q := fun q n => by rw [← hs2]; exact up_ne _ _ n
  have f2a : s2.1 (P + 3) = nA H (s1.1 (P + 3)) := by rw [← hs2]; dsimp only; rw [up_same]
  have f2b : s2.2 = s1.2 := by rw [← hs2]
  have ca2 : cT s2 a t := cT_congr (fun q z1 z2 => f2 q (by omega)) (by rw [f2b]) ca
  have cb2 : cT s2 b w := cT_congr (fun q z1 z2 => f2 q (by omega)) (by rw [f2b]) cb
  obtain ⟨B1, hB1, r3⟩ := c_mb (L := L) (xs := xs) (d := d + 42) hA ca2 hw ht (hPP.2 4 (by decide) (by decide)) (by omega)
  generalize hs3 : ((va_up s2.1 (P + 4) (nA B1 (s2.1 (P + 4))), s2.2) : St) = s3 at r3
  have f3 : ∀ q, q ≠ P + 4 → s3.1 q = s2.1 q := fun q n => by rw [← hs3]; exact up_ne _ _ n
  have f3a : s3.1 (P + 4) = nA B1 (s2.1 (P + 4)) := by rw [← hs3]; dsimp only; rw [up_same]
  have f3b : s3.2 = s2.2 := by rw [← hs3]
  have ca3 : cT s3 a t := cT_congr (fun q z1 z2 => f3 q (by omega)) (by rw [f3b]) ca2
  have cb3 : cT s3 b w := cT_congr (fun q z1 z2 => f3 q (by omega)) (by rw [f3b]) cb2
  obtain ⟨B2, hB2, r4⟩ := c_mb (L := L) (xs := xs) (d := d + 42) hB cb3 hw' hu (hPP.2 5 (by decide) (by decide)) (by omega)
  generalize hs4 : ((va_up s3.1 (P + 5) (nA B2 (s3.1 (P + 5))), s3.2) : St) = s4 at r4
  have f4 : ∀ q, q ≠ P + 5 → s4.1 q = s3.1 q := fun q n => by rw [← hs4]; exact up_ne _ _ n
  have f4a : s4.1 (P + 5) = nA B2 (s3.1 (P + 5)) := by rw [← hs4]; dsimp only; rw [up_same]
  have f4b : s4.2 = s3.2 := by rw [← hs4]
  have ca4 : cT s4 a t := cT_congr (fun q z1 z2 => f4 q (by omega)) (by rw [f4b]) ca3
  have cb4 : cT s4 b w := cT_congr (fun q z1 z2 => f4 q (by omega)) (by rw [f4b]) cb3
  have e6 : s4.2.2 P 6 = a := by rw [f4b, f3b, f2b]; exact f1d
  have e7 : s4.2.2 P 7 = b := by rw [f4b, f3b, f2b]; exact f1e
  have hK : cK s4 P a b t w H := ⟨hPP, hA, hB, ⟨ha, hb⟩, e6, e7, ca4, cb4, hH, fun n hn => by
    rw [f4 _ (by omega), f3 _ (by omega), f2a]; exact nA_at H _ hn⟩
  obtain ⟨g, hg, r5⟩ := c_markAlikes (L := L) (xs := xs) (d := d) hK hw hw'
  generalize hs5 : ((va_up s4.1 (P + 6) g, s4.2) : St) = s5 at r5
  have f5 : ∀ q, q ≠ P + 6 → s5.1 q = s4.1 q := fun q n => by rw [← hs5]; exact up_ne _ _ n
  have f5a : s5.1 (P + 6) = g := by rw [← hs5]; dsimp only; rw [up_same]
  have f5b : s5.2 = s4.2 := by rw [← hs5]
  have hK5 : cK s5 P a b t w H := by rw [← hs5]; exact cK_up (by decide) (by decide) hK
  have hQ : cQ s5 P a b t w H pN := by
    refine ⟨⟨hPP, hA, hB, hK5.2.2.2.2.1, hK5.2.2.2.2.2.1, hK5.2.2.2.2.2.2.1, hK5.2.2.2.2.2.2.2.1, ⟨B1, hB1, fun n hn => ?_⟩, ⟨B2, hB2, fun n hn => ?_⟩⟩, hK5, fun n hn => ?_, fun n hn => ?_, ⟨fun n v q => (by cases q), fun v n q => (by cases q)⟩, hw, hw'⟩
    · rw [f5 _ (by omega), f4 _ (by omega), f3a]; exact nA_at B1 _ hn
    · rw [f5 _ (by omega), f4a]; exact nA_at B2 _ hn
    · rw [f5a]; exact hg n hn
    · rw [f5 _ (by omega), f4 _ (by omega), f3 _ (by omega), f2 _ (by omega), f1a, f5 (P + 2) (by omega), f4 _ (by omega), f3 _ (by omega), f2 _ (by omega), f1b]
      unfold fil pN
      rw [if_pos hn, if_pos hn]
      exact ⟨rfl, rfl⟩
  obtain ⟨s6, M1, v3, v4, t1, t2, t3, t4⟩ := c_rounds (L := L) (xs := xs) (d := d) (v1 := .ref a) (v2 := .ref b) 12 0 s5 pN rfl (by omega) hQ
  obtain ⟨s7, u1, u2, u3⟩ := c_joinByShare (L := L) (xs := xs) (d := d + 40) t1
  obtain ⟨s8, x1, x2, x3⟩ := c_joinRoots (L := L) (xs := xs) (d := d + 40) u1 ht hu
  refine ⟨s8, H, _, hH, x1, ⟨M1, t3, rfl⟩, ⟨fun q hq => ?_, ?_, fun q k hq => ?_⟩, fun Q => ?_⟩
  · rw [x2.1 q (by omega) (by omega), u2.1 q (by omega) (by omega), t2.1 q (by omega) (by omega), f5 q (by omega), f4 q (by omega), f3 q (by omega), f2 q (by omega), f1 q (by omega) (by omega)]
  · rw [x2.2, u2.2, t2.2, f5b, f4b, f3b, f2b, f1c]
  · rw [x2.2, u2.2, t2.2, f5b, f4b, f3b, f2b, f1f q k hq]
  · have t4 : am_Rn L xs (d + 44) 25 68 [.ref P, .ref a, .ref b, .int 1, .int 0] [] (mk s5) Q = _ := t4 Q
    have g1 := f1d
    have g2 : s2.2.2 P 6 = a := by rw [f2b]; exact f1d
    have g3 : s3.2.2 P 7 = b := by rw [f3b, f2b]; exact f1e
    have z1 : ∀ Q : Option Value → am_S → Prop, am_Call L xs (d + 43) 2 [.ref (P + 1), .int (-1)] (mk (s.1, s.2.1, am_u2 (am_u2 s.2.2 P 6 a) P 7 b)) Q = _ := fun Q => a_fill (hPP.2 1 (by decide) (by decide)) (by decide)
    have z2 : ∀ Q : Option Value → am_S → Prop, am_Call L xs (d + 43) 2 [.ref (P + 2), .int (-1)] (mk (va_up s.1 (P + 1) (fil 12 (-1) (s.1 (P + 1))), s.2.1, am_u2 (am_u2 s.2.2 P 6 a) P 7 b)) Q = Q none (mk s1) := fun Q => by
      rw [← hs1, a_fill (hPP.2 2 (by decide) (by decide)) (by decide)]
      dsimp only
      rw [up_ne (k := P + 2) _ _ (by omega)]
    have e26 : am_Call L xs (d + 44) 25 [.ref P, .ref a, .ref b] (mk s) Q = am_Rn L xs (d + 44) 25 26 [.ref P, .ref a, .ref b, .retAddr 0, .retAddr 0] [] (mk s1) Q := by
      simp only [e25, r25_0, r25_1, r25_2, r25_5, r25_6, r25_7, r25_10, r25_11, r25_14, r25_15, r25_18, r25_19, r25_22, r25_23, am_laR0, am_laS, am_liS, am_li0, p_0 hPP, p_1 hPP, p_v6 hPP, p_v7 hPP, z1, z2, am_tN, am_okI, am_okR, List.length_nil, Nat.zero_le, and_true, true_and]
    have e68 : am_Rn L xs (d + 44) 25 26 [.ref P, .ref a, .ref b, .retAddr 0, .retAddr 0] [] (mk s1) Q = am_Rn L xs (d + 44) 25 68 [.ref P, .ref a, .ref b, .int 1, .int 0] [] (mk s5) Q := by
      simp only [r25_26, r25_27, r25_30, r25_31, r25_34, r25_37, r25_38, r25_41, r25_42, r25_45, r25_48, r25_49, r25_52, r25_53, r25_56, r25_59, r25_60, r25_63, r25_64, r25_65, r25_66, am_laR0, am_laS, am_liS, am_li0, p_oc hPP, p_2 hPP, p_3 hPP, p_4 hPP, p_6 hPP, p_7 hPP, f_oc hA, f_oc hB, g1, g2, g3, r2, r3, r4, r5, am_tN, am_okI, am_okR, List.length_cons, List.length_nil, List.set_cons_succ, List.set_cons_zero, Nat.reduceAdd, Nat.reduceLT, Nat.zero_le, and_true, true_and]
    rw [e26, e68, t4]
    simp only [r25_90, r25_91, r25_94, r25_95, r25_98, am_laR0, p_oc hPP, u3, x3, am_tN, List.length_nil, Nat.zero_le, and_true, true_and]
end
