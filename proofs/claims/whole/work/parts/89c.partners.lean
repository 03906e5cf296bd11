/-! The reference's partners, whole -/
def pN : Pr := (fun _ => none, fun _ => none)
/-- the partners that the document asks for -/
def prt (t w : Tr) (H : Nat → Nat) (M : Pr) : Prop := ∃ M1, rnd t w H 12 pN M1 ∧ M = jrA t w (jbF t w t.1 M1)
theorem prt_un {t w : Tr} {H : Nat → Nat} {M M' : Pr} (h : prt t w H M) (h' : prt t w H M') : M = M' := by
  obtain ⟨M1, r1, e1⟩ := h
  obtain ⟨M2, r2, e2⟩ := h'
  rw [e1, e2, rnd_un r1 r2]
def frP (s s' : St) : Prop := (∀ q, ¬ (126 ≤ q ∧ q ≤ 133) → s'.1 q = s.1 q) ∧ s'.2 = s.2
section
variable {L : Nat} {xs : Nat → Int32} {d : Nat} {s : St}
theorem m_p_fill {v2 v3 : Value} {Q : Option Value → am_S → Prop} : ∀ (m i : Nat), 12 - i = m → i ≤ 12 →
    am_Rn L xs d 95 2 [.ref 121, .int (nI i), v2, v3] [] (mk (va_up (va_up s.1 126 (fil i (-1) (s.1 126))) 127 (fil i (-1) (s.1 127)), s.2)) Q =
    am_Rn L xs d 95 28 [.ref 121, .int (nI 12), v2, v3] [] (mk (va_up (va_up s.1 126 (fil 12 (-1) (s.1 126))) 127 (fil 12 (-1) (s.1 127)), s.2)) Q
  | 0, i, hm, hi => by
    have e : i = 12 := by omega
    subst e
    have h1 : (12 : Int32) ≤ nI 12 := by decide
    rw [r95_2]
    simp only [r95_3, r95_5, am_li0, am_liS, h1, if_true]
  | m + 1, i, hm, hi => by
    have h1 : ¬ (12 : Int32) ≤ nI i := nI_ge (b := 12) (by omega) (by decide)
    have k1 : am_in (nI i) 12 = true := in_of (by omega) (by decide)
    have k2 : (nI i).toNatClampNeg = i := nI_clamp (by omega)
    have ih := m_p_fill (v2 := v2) (v3 := v3) (Q := Q) m (i + 1) (by omega) (by omega)
    have x1 : ∀ (g g' : Nat → Int32), va_up (va_up s.1 126 g) 127 g' 126 = g := fun g g' => by rw [up_ne _ _ (by omega), up_same]
    have x2 : ∀ (g g' g'' : Nat → Int32), va_up (va_up (va_up s.1 126 g) 127 g') 126 g'' = va_up (va_up s.1 126 g'') 127 g' := fun g g' g'' => by
      funext q
      unfold va_up
      by_cases e1 : q = 126
      · subst e1; simp
      · by_cases e2 : q = 127
        · subst e2; simp
        · simp [e1, e2]
    rw [← ih, r95_2]
    simp only [r95_3, r95_5, r95_8, r95_9, r95_12, r95_13, r95_14, r95_15, r95_16, r95_19, r95_20, r95_21, r95_22, r95_25, am_li0, am_liS, am_laR0, g121_4, g121_5, w126, w127, h1, k1, k2, x1, x2, up_same, up_up, fil_s, nI_1, if_false, List.set_cons_succ, List.set_cons_zero, true_and]
theorem m_partners {j j' : Nat} {t w : Tr} {H : Nat → Nat} (h : j < 3) (h' : j' < 3) (hw : tW t) (hw' : tW w) (hH : hP t H) (q1 : mT s j t) (q2 : mT s j' w) (q3 : s.2.1 121 16 = nI j) (q4 : s.2.1 121 17 = nI j') (ht : 0 < t.1) (hu : 0 < w.1) :
    ∃ (s' : St) (M : Pr), mQ s' j j' t w H M ∧ prt t w H M ∧ frP s s' ∧ ∀ Q : Option Value → am_S → Prop, am_Call L xs (d + 4) 95 [.ref 121] (mk s) Q = Q none (mk s') := by
  have h12 := hw.1
  generalize hs1 : ((va_up (va_up s.1 126 (fil 12 (-1) (s.1 126))) 127 (fil 12 (-1) (s.1 127)), s.2) : St) = s1
  have f1 : frW s s1 := by rw [← hs1]; exact frW_J _ _ _
  have f1a : s1.1 126 = fil 12 (-1) (s.1 126) := by rw [← hs1]; dsimp only; rw [up_ne _ _ (by omega), up_same]
  have f1b : s1.1 127 = fil 12 (-1) (s.1 127) := by rw [← hs1]; dsimp only; rw [up_same]
  have a1 : mT s1 j t := mT_congr (fun q z1 z2 => f1.1 q (by omega) (by omega)) q1
  have a2 : mT s1 j' w := mT_congr (fun q z1 z2 => f1.1 q (by omega) (by omega)) q2
  obtain ⟨g, hg, hr⟩ := m_compare (L := L) (xs := xs) (d := d + 2) h h' a1 a2 hw hw'
  generalize hs2 : ((va_up s1.1 128 g, s1.2) : St) = s2 at hr
  have f2 : ∀ q, q ≠ 128 → s2.1 q = s1.1 q := fun q hq => by rw [← hs2]; exact up_ne _ _ hq
  have f2a : s2.1 128 = g := by rw [← hs2]; dsimp only; rw [up_same]
  have f2b : s2.2 = s1.2 := by rw [← hs2]
  have b1 : mT s2 j t := mT_congr (fun q z1 z2 => f2 q (by omega)) a1
  have b2 : mT s2 j' w := mT_congr (fun q z1 z2 => f2 q (by omega)) a2
  have e3 : s2.2.1 121 16 = nI j := by rw [f2b, f1.2]; exact q3
  have e4 : s2.2.1 121 17 = nI j' := by rw [f2b, f1.2]; exact q4
  obtain ⟨s3, f3, hI, hr3⟩ := m_look (L := L) (xs := xs) (d := d) h h' hw hw' hH b1 b2 e3 e4
  have hQ : mQ s3 j j' t w H pN := by
    refine ⟨⟨h, h', mT_K f3 b1, mT_K f3 b2, by rw [f3.2]; exact e3, by rw [f3.2]; exact e4, hH, hI⟩, ?_, ?_, ⟨fun n v q => (by cases q), fun v n q => (by cases q)⟩, hw, hw'⟩
    · rw [f3.1 128 (by omega), f2a]; exact hg
    · rw [f3.1 126 (by omega), f3.1 127 (by omega), f2 126 (by omega), f2 127 (by omega), f1a, f1b]
      intro n hn
      unfold fil pN
      rw [if_pos hn, if_pos hn]
      exact ⟨rfl, rfl⟩
  obtain ⟨s4, M1, v1, v2, r1, r2, r3, r4⟩ := m_rounds (L := L) (xs := xs) (d := d + 2) (v3 := .retAddr 0) 12 0 s3 pN rfl (by omega) hQ
  obtain ⟨s5, v2', v3', t1, t2, t3⟩ := m_jb_loop (L := L) (xs := xs) (d := d + 2) (v1 := v1) t.1 s4 M1 (.retAddr 0) (Nat.le_refl _) r1
  obtain ⟨s6, u1, u2, u3⟩ := m_roots (L := L) (xs := xs) (d := d + 2) t1 ht hu (v1 := v1) (v2 := v2') (v3 := v3')
  refine ⟨s6, _, u1, ⟨M1, r3, rfl⟩, ⟨fun q hq => ?_, ?_⟩, fun Q => ?_⟩
  · rw [u2.1 q (by omega) (by omega), t2.1 q (by omega) (by omega), r2.1 q (by omega) (by omega), f3.1 q (by omega), f2 q (by omega), f1.1 q (by omega) (by omega)]
  · rw [u2.2, t2.2, r2.2, f3.2, f2b, f1.2]
  · have hb := fun Q => m_best (L := L) (xs := xs) (d := d + 2) (s := s3) hQ (Q := Q)
    have hf := m_p_fill (L := L) (xs := xs) (d := d + 4) (s := s) (v2 := .retAddr 0) (v3 := .retAddr 0) (Q := Q) 12 0 rfl (by omega)
    rw [fil_0, fil_0, up_self, hs1] at hf
    have e127 : va_up s.1 127 (s.1 127) = s.1 := up_self _ _
    rw [e127] at hf
    have hf : am_Rn L xs (d + 4) 95 2 [.ref 121, .int 0, .retAddr 0, .retAddr 0] [] (mk s) Q = _ := hf
    have c3 : s1.2.1 121 16 = nI j := by rw [f1.2]; exact q3
    have c4 : s1.2.1 121 17 = nI j' := by rw [f1.2]; exact q4
    have r4 : am_Rn L xs (d + 4) 95 51 [.ref 121, .int (bsB (bsA t w H pN)), .int 0, .retAddr 0] [] (mk s3) Q = _ := r4 Q
    have m4 : s4.1 122 j = nI t.1 := r1.1.2.2.1.1
    have k2 : am_in (nI j) 4 = true := in_of (by omega) (by decide)
    have k3 : (nI j).toNatClampNeg = j := nI_clamp (by omega)
    have e5 : s4.2.1 121 16 = nI j := r1.1.2.2.2.2.1
    rw [← u3 Q, ← t3 Q]
    have g84 : am_Rn L xs (d + 4) 95 84 [.ref 121, v1, v2, .retAddr 0] [] (mk s4) Q = am_Rn L xs (d + 4) 95 96 [.ref 121, v1, .int (nI t.1 - 1), .retAddr 0] [] (mk s4) Q := by
      simp only [r95_84, r95_85, r95_88, r95_89, r95_92, r95_93, r95_94, r95_95, am_li0, am_liS, am_laR0, g121_0, g121_16, a122, e5, k2, k3, m4, List.length_cons, List.length_nil, List.set_cons_succ, List.set_cons_zero, Nat.reduceAdd, Nat.reduceLT, true_and]
    rw [← g84, ← r4]
    simp only [e95, r95_0, r95_1, List.length_cons, List.length_nil, List.set_cons_succ, List.set_cons_zero, Nat.reduceAdd, Nat.reduceLT, true_and]
    rw [hf]
    simp only [r95_28, r95_29, r95_30, r95_33, r95_34, r95_37, r95_40, r95_41, r95_44, r95_45, r95_48, r95_49, r95_50, am_li0, am_liS, am_laR0, m_oc, g121_16, g121_17, c3, c4, hr, hr3, hb, am_tL, am_tN, am_okI, List.length_cons, List.length_nil, List.set_cons_succ, List.set_cons_zero, Nat.reduceAdd, Nat.reduceLT, Nat.zero_le, and_true, true_and]
end
