/-! equal: the reference's queue -/
def mpR (f : Nat → Nat) (k : Nat) : List Nat := (List.range k).map f
theorem mpR_len (f : Nat → Nat) (k : Nat) : (mpR f k).length = k := by
  unfold mpR
  rw [List.length_map, List.length_range]
theorem mpR_s (f : Nat → Nat) (k : Nat) : mpR f (k + 1) = mpR f k ++ [f k] := by
  unfold mpR
  rw [List.range_succ, List.map_append]; rfl
theorem mpR_at (f : Nat → Nat) {k j : Nat} (h : j < k) : nthL (mpR f k) j = f j := by
  unfold nthL mpR
  rw [List.getElem?_map, List.getElem?_range h]; rfl
theorem mpR_mem {f : Nat → Nat} {k z : Nat} : z ∈ mpR f k ↔ ∃ j, j < k ∧ f j = z := by
  unfold mpR
  rw [List.mem_map]
  exact ⟨fun ⟨j, h1, h2⟩ => ⟨j, List.mem_range.mp h1, h2⟩, fun ⟨j, h1, h2⟩ => ⟨j, List.mem_range.mpr h1, h2⟩⟩
theorem nthL_snoc (A : List Nat) (z : Nat) {k : Nat} (h : k ≤ A.length) : nthL (A ++ [z]) k = if k = A.length then z else nthL A k := by
  by_cases e : k = A.length
  · rw [if_pos e, e]
    have := nthL_app2 A [z] 0
    rw [Nat.add_zero] at this
    exact this
  · rw [if_neg e]
    exact nthL_app1 (by omega)
/-- the queue stands in the two arrays -/
def bfA (s : St) (V Y : List Nat) : Prop := V.length = Y.length ∧ ∀ k, k < Y.length → s.1 152 k = nI (nthL V k) ∧ s.1 153 k = nI (nthL Y k)
/-- who can be in it -/
def bfI (R : Rs) (t : Tr) (V Y : List Nat) (i : Nat) : Prop := (∀ v, v ∈ V → v ∈ R.2.1) ∧ (∀ y, y ∈ Y → y < t.1) ∧ Y.Nodup ∧ ∀ c, c ∈ Y → c = 0 ∨ (0 < c ∧ ∃ k, k < i ∧ k < Y.length ∧ pm t c = nthL Y k)
def frQ (s s' : St) : Prop := (∀ q, q ≠ 152 → q ≠ 153 → s'.1 q = s.1 q) ∧ s'.2 = s.2
theorem frQ_t {s s1 s2 : St} (h : frQ s s1) (h' : frQ s1 s2) : frQ s s2 := ⟨fun q a b => (h'.1 q a b).trans (h.1 q a b), h'.2.trans h.2⟩
theorem nthL_inj : ∀ {l : List Nat} {i j : Nat}, l.Nodup → i < l.length → j < l.length → nthL l i = nthL l j → i = j
  | [], i, j, _, h, _, _ => absurd h (Nat.not_lt_zero _)
  | z :: r, 0, 0, _, _, _, _ => rfl
  | z :: r, 0, j + 1, hn, _, hj, h => by
    rw [List.nodup_cons] at hn
    rw [nthL_0, nthL_s] at h
    rw [List.length_cons] at hj
    exact absurd (by rw [h]; exact nthL_mem (by omega)) hn.1
  | z :: r, i + 1, 0, hn, hi, _, h => by
    rw [List.nodup_cons] at hn
    rw [nthL_0, nthL_s] at h
    rw [List.length_cons] at hi
    exact absurd (by rw [← h]; exact nthL_mem (by omega)) hn.1
  | z :: r, i + 1, j + 1, hn, hi, hj, h => by
    rw [List.nodup_cons] at hn
    rw [nthL_s, nthL_s] at h
    rw [List.length_cons] at hi hj
    rw [nthL_inj hn.2 (by omega) (by omega) h]
section
variable {L : Nat} {xs : Nat → Int32} {d : Nat}
theorem w152' {s : St} {i x : Int32} {f : am_S → Prop} : am_wi 0 (mk s) 152 i x f = (am_in i 36 = true ∧ f (mk (w1 s 152 i.toNatClampNeg x))) := w152
theorem w153' {s : St} {i x : Int32} {f : am_S → Prop} : am_wi 0 (mk s) 153 i x f = (am_in i 36 = true ∧ f (mk (w1 s 153 i.toNatClampNeg x))) := w153
/-- the children of the result's v, of the tree's y -/
def qA (R : Rs) (v k : Nat) : Nat := (kdL R.2.2.1 (nI v) R.2.1 k).getD 0
def qB (t : Tr) (y k : Nat) : Nat := (kd t y k).getD 0
/-- what the reference has at hand -/
def eqH (s : St) (R : Rs) (j : Nat) (t : Tr) : Prop := rOk R ∧ mR s R ∧ j < 3 ∧ mT s j t ∧ tW t
theorem eqH_Q {s s' : St} {R : Rs} {j : Nat} {t : Tr} (f : frQ s s') (h : eqH s R j t) : eqH s' R j t := ⟨h.1, mR_congr (fun q _ _ => f.1 q (by omega) (by omega)) (by rw [f.2]) (by rw [f.2]) h.2.1, h.2.2.1, mT_congr (fun q _ _ => f.1 q (by omega) (by omega)) h.2.2.2.1, h.2.2.2.2⟩
theorem m_eq_in {R : Rs} {j : Nat} {t : Tr} {V Y : List Nat} {v y c : Nat} {v3 : Value} (hv : v ∈ R.2.1) (hy : y < t.1) (hc1 : c ≤ ctL R.2.2.1 (nI v) R.2.1) (hc2 : c ≤ kc t y) (hc : c = ctL R.2.2.1 (nI v) R.2.1 ∨ c = kc t y) (hb : Y.length + c ≤ 36) : ∀ (m k : Nat) (s : St), c - k = m → k ≤ c → eqH s R j t → bfA s (V ++ mpR (qA R v) k) (Y ++ mpR (qB t y) k) →
    ∃ s' : St, bfA s' (V ++ mpR (qA R v) c) (Y ++ mpR (qB t y) c) ∧ frQ s s' ∧ ∀ Q : Option Value → am_S → Prop, am_Rn L xs (d + 1) 130 136 [.ref 121, .int (nI j), .int (nI (Y.length + k)), v3, .int (nI v), .int (nI y), .int (nI k)] [] (mk s) Q = am_Rn L xs (d + 1) 130 197 [.ref 121, .int (nI j), .int (nI (Y.length + c)), v3, .int (nI v), .int (nI y), .int (nI c)] [] (mk s') Q
  | 0, k, s, hm, hk, hH, hA => by
    have e : k = c := by omega
    subst e
    obtain ⟨hR, hM, hj, hT, hw⟩ := hH
    have h12 := hw.1
    have hkc := kc_lt hw hy
    refine ⟨s, hA, ⟨fun _ _ _ => rfl, rfl⟩, fun Q => ?_⟩
    have m1 : (-1 : Int32) < 0 := by decide
    have tw : ∀ Q : Option Value → am_S → Prop, am_Call L xs d 131 [.ref 121, .int (nI v), .int (nI k)] (mk s) Q = _ := fun Q => m_twig hR hM (by omega)
    have ch : ∀ Q : Option Value → am_S → Prop, am_Call L xs d 92 [.ref 121, .int (nI j), .int (nI y), .int (nI k)] (mk s) Q = _ := fun Q => m_child hj hT hw hy (by omega)
    rw [r130_136]
    cases hd : kdL R.2.2.1 (nI v) R.2.1 k with
    | none =>
      rw [hd, oI_none] at tw
      simp only [r130_137, r130_139, r130_141, r130_144, am_li0, am_liS, am_laR0, am_tL, m_oc, tw, m1, if_true, am_okI, am_okR, List.length_cons, List.length_nil, Nat.reduceAdd, Nat.zero_le, Nat.reduceLeDiff, and_true, true_and]
    | some z =>
      have hz := kdL_some hR.2.1 hd
      have hz0 : ¬ nI z < 0 := nI_pos (rOk_lt hR z hz.1)
      have hkn : kd t y k = none := by
        refine kd_ge hw (by omega) (by omega) ?_
        rcases hc with e | e
        · have := kdL_none.mpr (Nat.le_of_eq e.symm)
          rw [hd] at this; cases this
        · omega
      rw [hd, oI_some] at tw
      rw [hkn, oI_none] at ch
      simp only [r130_137, r130_139, r130_141, r130_144, r130_147, r130_148, r130_149, r130_151, r130_153, r130_156, am_li0, am_liS, am_laR0, am_tL, m_oc, tw, ch, hz0, m1, if_true, if_false, am_okI, am_okR, List.length_cons, List.length_nil, Nat.reduceAdd, Nat.zero_le, Nat.reduceLeDiff, and_true, true_and]
  | m + 1, k, s, hm, hk, hH, hA => by
    have hH' := hH
    obtain ⟨hR, hM, hj, hT, hw⟩ := hH
    have h12 := hw.1
    have hkc := kc_lt hw hy
    obtain ⟨z, ez, hz⟩ := kdL_ex hR (show k < ctL R.2.2.1 (nI v) R.2.1 by omega)
    obtain ⟨b, eb, b1, b2⟩ := kd_lt hw (x := y) (by omega) (show k < kc t y by omega)
    have hz0 : ¬ nI z < 0 := nI_pos (rOk_lt hR z hz)
    have hb0 : ¬ nI b < 0 := nI_pos (by omega)
    have tw : ∀ (s : St) (_ : mR s R) (Q : Option Value → am_S → Prop), am_Call L xs d 131 [.ref 121, .int (nI v), .int (nI k)] (mk s) Q = Q (some (.int (nI z))) (mk s) := fun s hM Q => by
      have := m_twig (L := L) (xs := xs) (d := d) (x := nI v) (Q := Q) hR hM (show k < 2 ^ 31 by omega)
      rw [ez, oI_some] at this
      exact this
    have ch : ∀ (s : St) (_ : mT s j t) (Q : Option Value → am_S → Prop), am_Call L xs d 92 [.ref 121, .int (nI j), .int (nI y), .int (nI k)] (mk s) Q = Q (some (.int (nI b))) (mk s) := fun s hT Q => by
      have := m_child (L := L) (xs := xs) (d := d) (Q := Q) hj hT hw hy (show k < 2 ^ 31 by omega)
      rw [eb, oI_some] at this
      exact this
    generalize hs1 : w1 s 152 (Y.length + k) (nI z) = s1
    have f1 : frQ s s1 := by rw [← hs1]; exact ⟨fun q n1 n2 => w1_o _ _ _ n1, rfl⟩
    have a1 : s1.1 152 = upd (s.1 152) (Y.length + k) (nI z) := by rw [← hs1, w1_q]
    have a2 : s1.1 153 = s.1 153 := by rw [← hs1, w1_o _ _ _ (by omega)]
    generalize hs2 : w1 s1 153 (Y.length + k) (nI b) = s2
    have f2 : frQ s1 s2 := by rw [← hs2]; exact ⟨fun q n1 n2 => w1_o _ _ _ n2, rfl⟩
    have b3 : s2.1 153 = upd (s.1 153) (Y.length + k) (nI b) := by rw [← hs2, w1_q, a2]
    have b4 : s2.1 152 = upd (s.1 152) (Y.length + k) (nI z) := by rw [← hs2, w1_o _ _ _ (by omega), a1]
    have lV : (V ++ mpR (qA R v) k).length = Y.length + k := by rw [hA.1, List.length_append, mpR_len]
    have lY : (Y ++ mpR (qB t y) k).length = Y.length + k := by rw [List.length_append, mpR_len]
    have qa : qA R v k = z := by unfold qA; rw [ez]; rfl
    have qb : qB t y k = b := by unfold qB; rw [eb]; rfl
    have hA2 : bfA s2 (V ++ mpR (qA R v) (k + 1)) (Y ++ mpR (qB t y) (k + 1)) := by
      rw [mpR_s, mpR_s, ← List.append_assoc, ← List.append_assoc, qa, qb]
      refine ⟨by rw [List.length_append (bs := [z]), List.length_append (bs := [b]), lV, lY]; rfl, fun i hi => ?_⟩
      rw [List.length_append, lY] at hi
      have hi : i < Y.length + k + 1 := hi
      rw [nthL_snoc _ _ (by omega), nthL_snoc _ _ (by omega), lV, lY, b3, b4]
      by_cases e : i = Y.length + k
      · rw [if_pos e, if_pos e, e, upd_s, upd_s]; exact ⟨rfl, rfl⟩
      · rw [if_neg e, if_neg e, upd_n _ _ e, upd_n _ _ e]
        exact hA.2 i (by omega)
    obtain ⟨s', c1, c2, c3⟩ := m_eq_in (v3 := v3) hv hy hc1 hc2 hc hb m (k + 1) s2 (by omega) (by omega) (eqH_Q (frQ_t f1 f2) hH') hA2
    refine ⟨s', c1, frQ_t f1 (frQ_t f2 c2), fun Q => ?_⟩
    have p1 : am_in (nI (Y.length + k)) 36 = true := in_of (by omega) (by decide)
    have p2 : (nI (Y.length + k)).toNatClampNeg = Y.length + k := nI_clamp (by omega)
    have tw0 := tw s hM
    have ch0 := ch s hT
    have ch1 := ch s1 (mT_congr (fun q _ _ => f1.1 q (by omega) (by omega)) hT)
    have e9 : nI (Y.length + k) + 1 = nI (Y.length + (k + 1)) := nI_1 (Y.length + k)
    rw [← c3 Q, r130_136]
    simp only [r130_137, r130_139, r130_141, r130_144, r130_147, r130_148, r130_149, r130_151, r130_153, r130_156, r130_159, r130_160, r130_163, r130_164, r130_165, r130_167, r130_169, r130_172, r130_173, r130_174, r130_177, r130_178, r130_179, r130_180, r130_182, r130_184, r130_187, r130_188, r130_191, r130_194, am_li0, am_liS, am_laR0, am_tL, m_oc, g121_36, g121_37, w152', w153', tw0, ch0, ch1, hs1, hs2, hz0, hb0, p1, p2, e9, nI_1, if_false, am_okI, am_okR, List.length_cons, List.length_nil, List.set_cons_succ, List.set_cons_zero, Nat.reduceAdd, Nat.reduceLT, Nat.zero_le, Nat.reduceLeDiff, and_true, true_and]
/-- what is still to be shown -/
def allE (R : Rs) (t : Tr) (V Y : List Nat) (i : Nat) : Prop := ∀ k, i ≤ k → k < Y.length → eqN R t 13 (nthL V k) (nthL Y k) = true
theorem m_eq_out {R : Rs} {j : Nat} {t : Tr} : ∀ (m i : Nat) (V Y : List Nat) (s : St) (v4 v5 v6 : Value), 13 - i = m → i ≤ Y.length → eqH s R j t → bfA s V Y → bfI R t V Y i →
    ∃ (s' : St) (b : Bool), (b = true ↔ allE R t V Y i) ∧ frQ s s' ∧ ∀ Q : Option Value → am_S → Prop, am_Rn L xs (d + 1) 130 66 [.ref 121, .int (nI j), .int (nI Y.length), .int (nI i), v4, v5, v6] [] (mk s) Q = Q (some (.int (bI b))) (mk s') := by
  intro m
  induction m with
  | zero =>
    intro i V Y s v4 v5 v6 hm hi hH hA hI
    have h12 := hH.2.2.2.2.1
    have := nd_len t.1 Y hI.2.2.1 hI.2.1
    omega
  | succ m ih =>
    intro i V Y s v4 v5 v6 hm hi hH hA hI
    have hH' := hH
    obtain ⟨hR, hM, hj, hT, hw⟩ := hH
    have h12 := hw.1
    have h36 := hR.1
    have hlen := nd_len t.1 Y hI.2.2.1 hI.2.1
    by_cases hin : i = Y.length
    · refine ⟨s, true, ⟨fun _ k k1 k2 => by omega, fun _ => rfl⟩, ⟨fun _ _ _ => rfl, rfl⟩, fun Q => ?_⟩
      have h1 : nI Y.length ≤ nI i := by rw [hin]; exact nI_le (Nat.le_refl _) (by omega)
      have b1 : bI true = 1 := rfl
      rw [r130_66, b1]
      simp only [r130_67, r130_68, r130_228, r130_229, am_li0, am_liS, h1, if_true, or_true, eq_self]
    · have h1 : ¬ nI Y.length ≤ nI i := nI_ge (by omega) (by omega)
      have i1 : am_in (nI i) 36 = true := in_of (by omega) (by decide)
      have i2 : (nI i).toNatClampNeg = i := nI_clamp (by omega)
      obtain ⟨e1, e2⟩ := hA.2 i (by omega)
      have hv := hI.1 _ (nthL_mem (show i < V.length by rw [hA.1]; omega))
      have hy := hI.2.1 _ (nthL_mem (show i < Y.length by omega))
      generalize hv' : nthL V i = v at e1 hv
      generalize hy' : nthL Y i = y at e2 hy
      have hvu := hR.2.2.1 v hv
      have v1 : am_in (nI v) 36 = true := in_of (by omega) (by decide)
      have v2 : (nI v).toNatClampNeg = v := nI_clamp (by omega)
      have z1 : am_in (nI (12 * j + y)) 48 = true := in_of (by omega) (by decide)
      have z2 : (nI (12 * j + y)).toNatClampNeg = 12 * j + y := nI_clamp (by omega)
      obtain ⟨-, g2, g3⟩ := hT.2 y hy
      obtain ⟨-, g5, g6⟩ := hM.2.2.2 v hv
      have n1 : ¬ (1 : Int32) = 0 := by decide
      have b0 : bI false = 0 := rfl
      -- where this pair fails
      have fail : eqN R t 13 v y = false → (false = true ↔ allE R t V Y i) := by
        intro q
        constructor
        · intro h; cases h
        · intro h
          have := h i (Nat.le_refl _) (by omega)
          rw [hv', hy', q] at this; exact this
      by_cases c1 : R.2.2.2.1 v = t.2.2.1 y
      · by_cases c2 : R.2.2.2.2 v = t.2.2.2 y
        · rw [c1] at g5
          rw [c2] at g6
          have hkc := kc_lt hw hy
          -- the children
          have hck : ∃ c, c = min (ctL R.2.2.1 (nI v) R.2.1) (kc t y) := ⟨_, rfl⟩
          obtain ⟨c, hc⟩ := hck
          have kdk : ∀ k, k < c → ∃ b, kd t y k = some b ∧ qB t y k = b ∧ b < t.1 ∧ y < b ∧ pm t b = y ∧ cnt t.2.1 (nI y) b = k := fun k hk => by
            obtain ⟨b, eb, x1, x2⟩ := kd_lt hw (x := y) (by omega) (show k < kc t y by omega)
            obtain ⟨y1, y2, y3, y4⟩ := kd_some hw (by omega) (by omega) eb
            exact ⟨b, eb, by unfold qB; rw [eb]; rfl, x1, x2, pm_of y2 y4 (by omega), y3⟩
          have kdv : ∀ k, k < c → ∃ z, kdL R.2.2.1 (nI v) R.2.1 k = some z ∧ qA R v k = z ∧ z ∈ R.2.1 := fun k hk => by
            obtain ⟨z, ez, hz⟩ := kdL_ex hR (show k < ctL R.2.2.1 (nI v) R.2.1 by omega)
            exact ⟨z, ez, by unfold qA; rw [ez]; rfl, hz⟩
          have hI2 : bfI R t (V ++ mpR (qA R v) c) (Y ++ mpR (qB t y) c) (i + 1) := by
            refine ⟨fun x hx => ?_, fun x hx => ?_, ?_, fun x hx => ?_⟩
            · rcases List.mem_append.mp hx with q | q
              · exact hI.1 x q
              · obtain ⟨k, k1, k2⟩ := mpR_mem.mp q
                obtain ⟨z, -, q2, q3⟩ := kdv k k1
                rw [← k2, q2]; exact q3
            · rcases List.mem_append.mp hx with q | q
              · exact hI.2.1 x q
              · obtain ⟨k, k1, k2⟩ := mpR_mem.mp q
                obtain ⟨b, -, q2, q3, -⟩ := kdk k k1
                rw [← k2, q2]; exact q3
            · rw [List.nodup_append]
              refine ⟨hI.2.2.1, ?_, fun a ha b hb e => ?_⟩
              · unfold mpR
                refine List.Pairwise.map (R := fun a b => a ≠ b ∧ a < c ∧ b < c) _ ?_ ?_
                · rintro a b ⟨ne, ha, hb⟩ e
                  obtain ⟨x1, -, x2, -, -, -, x3⟩ := kdk a ha
                  obtain ⟨y1, -, y2, -, -, -, y3⟩ := kdk b hb
                  rw [x2, y2] at e
                  subst e
                  omega
                · have hr := List.nodup_range (n := c)
                  refine List.Pairwise.imp_of_mem ?_ hr
                  intro a b ha hb ne
                  exact ⟨ne, List.mem_range.mp ha, List.mem_range.mp hb⟩
              · obtain ⟨k, k1, k2⟩ := mpR_mem.mp hb
                obtain ⟨b', -, q2, q3, q4, q5, -⟩ := kdk k k1
                have eb : b = b' := by rw [← k2, q2]
                rw [eb] at e
                rcases hI.2.2.2 a ha with q | ⟨q, k', w1', w2', w3⟩
                · omega
                · rw [e, q5] at w3
                  have := nthL_inj hI.2.2.1 (show i < Y.length by omega) w2' (by rw [hy']; exact w3)
                  omega
            · rcases List.mem_append.mp hx with q | q
              · rcases hI.2.2.2 x q with q2 | ⟨q2, k', w1', w2', w3⟩
                · exact Or.inl q2
                · exact Or.inr ⟨q2, k', by omega, by rw [List.length_append]; omega, by rw [nthL_app1 w2']; exact w3⟩
              · obtain ⟨k, k1, k2⟩ := mpR_mem.mp q
                obtain ⟨b', -, q2, q3, q4, q5, -⟩ := kdk k k1
                have eb : x = b' := by rw [← k2, q2]
                exact Or.inr ⟨by omega, i, by omega, by rw [List.length_append]; omega, by rw [eb, q5, nthL_app1 (by omega), hy']⟩
          have hlen2 := nd_len t.1 _ hI2.2.2.1 hI2.2.1
          rw [List.length_append, mpR_len] at hlen2
          have hA0 : bfA s (V ++ mpR (qA R v) 0) (Y ++ mpR (qB t y) 0) := by
            rw [show mpR (qA R v) 0 = [] from rfl, show mpR (qB t y) 0 = [] from rfl, List.append_nil, List.append_nil]; exact hA
          obtain ⟨s1, d1, d2, d3⟩ := m_eq_in (L := L) (xs := xs) (d := d) (v3 := .int (nI i)) hv hy (show c ≤ ctL R.2.2.1 (nI v) R.2.1 by omega) (show c ≤ kc t y by omega) (by omega) (show Y.length + c ≤ 36 by omega) c 0 s rfl (Nat.zero_le _) hH' hA0
          have hH1 := eqH_Q d2 hH'
          have S0 : ∀ Q : Option Value → am_S → Prop, am_Rn L xs (d + 1) 130 66 [.ref 121, .int (nI j), .int (nI Y.length), .int (nI i), v4, v5, v6] [] (mk s) Q = am_Rn L xs (d + 1) 130 197 [.ref 121, .int (nI j), .int (nI (Y.length + c)), .int (nI i), .int (nI v), .int (nI y), .int (nI c)] [] (mk s1) Q := fun Q => by
            have d3 : am_Rn L xs (d + 1) 130 136 [.ref 121, .int (nI j), .int (nI Y.length), .int (nI i), .int (nI v), .int (nI y), .int 0] [] (mk s) Q = _ := d3 Q
            rw [← d3, r130_66]
            simp only [r130_67, r130_68, r130_71, r130_72, r130_75, r130_76, r130_77, r130_79, r130_80, r130_83, r130_84, r130_85, r130_87, r130_88, r130_91, r130_93, r130_94, r130_95, r130_98, r130_100, r130_101, r130_102, r130_104, r130_105, r130_106, r130_109, r130_110, r130_113, r130_115, r130_116, r130_117, r130_120, r130_122, r130_123, r130_124, r130_126, r130_127, r130_128, r130_133, r130_134, am_li0, am_liS, am_laR0, g121_2, g121_3, g121_32, g121_33, g121_36, g121_37, a124, a125, a149, a150, a152, a153, h1, i1, i2, e1, e2, v1, v2, ix12, z1, z2, g2, g3, g5, g6, not_true, if_true, if_false, List.length_cons, List.length_nil, List.set_cons_succ, List.set_cons_zero, Nat.reduceAdd, Nat.reduceLT, true_and]
          have tw : ∀ Q : Option Value → am_S → Prop, am_Call L xs d 131 [.ref 121, .int (nI v), .int (nI c)] (mk s1) Q = _ := fun Q => m_twig hR hH1.2.1 (by omega)
          have ch : ∀ Q : Option Value → am_S → Prop, am_Call L xs d 92 [.ref 121, .int (nI j), .int (nI y), .int (nI c)] (mk s1) Q = _ := fun Q => m_child hj hH1.2.2.2.1 hw hy (by omega)
          by_cases hcc : ctL R.2.2.1 (nI v) R.2.1 = kc t y
          · -- as many: go on
            have k1 : kdL R.2.2.1 (nI v) R.2.1 c = none := kdL_none.mpr (by omega)
            have k2 : kd t y c = none := kd_ge hw (by omega) (by omega) (by omega)
            rw [k1, oI_none] at tw
            rw [k2, oI_none] at ch
            obtain ⟨s2, b, f1, f2, f3⟩ := ih (i + 1) _ _ s1 (.int (nI v)) (.int (nI y)) (.int (nI c)) (by omega) (by rw [List.length_append]; omega) hH1 d1 hI2
            refine ⟨s2, b, ?_, frQ_t d2 f2, fun Q => ?_⟩
            · rw [f1]
              have lV : V.length = Y.length := hA.1
              have eqy : eqN R t 13 v y = true ↔ ∀ k, k < c → eqN R t 13 (qA R v k) (qB t y k) = true := by
                rw [eqN_fuel hR hw 13 14 v y hy (by omega) (by omega), eqN_s, decide_eq_true c1, decide_eq_true c2, decide_eq_true hcc, Bool.true_and, Bool.true_and, Bool.true_and, allF_iff]
                constructor
                · intro h k hk
                  have := h k (Nat.zero_le _) (by omega)
                  obtain ⟨z, w1', w2', -⟩ := kdv k hk
                  obtain ⟨b', x1, x2, -⟩ := kdk k hk
                  rw [w1', x1, kB_ss] at this
                  rw [w2', x2]; exact this
                · intro h k _ hk
                  have := h k (by omega)
                  obtain ⟨z, w1', w2', -⟩ := kdv k (by omega)
                  obtain ⟨b', x1, x2, -⟩ := kdk k (by omega)
                  rw [w2', x2] at this
                  rw [w1', x1, kB_ss]; exact this
              constructor
              · intro h k k1' k2'
                by_cases e : k = i
                · rw [e, hv', hy']
                  refine eqy.mpr fun q hq => ?_
                  have := h (Y.length + q) (by omega) (by rw [List.length_append, mpR_len]; omega)
                  rw [nthL_app2, mpR_at _ hq, ← lV, nthL_app2, mpR_at _ hq] at this
                  exact this
                · have := h k (by omega) (by rw [List.length_append]; omega)
                  rw [nthL_app1 (by omega), nthL_app1 k2'] at this
                  exact this
              · intro h k k1' k2'
                rw [List.length_append, mpR_len] at k2'
                by_cases e : k < Y.length
                · rw [nthL_app1 (by omega), nthL_app1 e]
                  exact h k (by omega) e
                · obtain ⟨q, hq⟩ : ∃ q, k = Y.length + q := ⟨k - Y.length, by omega⟩
                  subst hq
                  have hq : q < c := by omega
                  rw [nthL_app2, mpR_at _ hq, ← lV, nthL_app2, mpR_at _ hq]
                  have := h i (Nat.le_refl _) (by omega)
                  rw [hv', hy'] at this
                  exact eqy.mp this q hq
            · have f3 := f3 Q
              rw [List.length_append, mpR_len] at f3
              have m1 : ¬ (0 : Int32) ≤ -1 := by decide
              have m2 : (-1 : Int32) < 0 := by decide
              rw [S0 Q, ← f3]
              simp only [r130_197, r130_198, r130_200, r130_202, r130_205, r130_208, r130_209, r130_210, r130_212, r130_214, r130_217, r130_222, r130_225, am_li0, am_liS, am_laR0, am_tL, m_oc, tw, ch, m1, m2, nI_1, if_true, if_false, am_okI, am_okR, List.length_cons, List.length_nil, List.set_cons_succ, List.set_cons_zero, Nat.reduceAdd, Nat.reduceLT, Nat.zero_le, Nat.reduceLeDiff, and_true, true_and]
          · -- not as many
            have hf : eqN R t 13 v y = false := by
              rw [show (13 : Nat) = 12 + 1 from rfl, eqN_s, decide_eq_false hcc, Bool.and_false, Bool.false_and]
            refine ⟨s1, false, fail hf, d2, fun Q => ?_⟩
            rw [S0 Q, b0]
            have m1 : ¬ (0 : Int32) ≤ -1 := by decide
            by_cases hlt : ctL R.2.2.1 (nI v) R.2.1 < kc t y
            · have k1 : kdL R.2.2.1 (nI v) R.2.1 c = none := kdL_none.mpr (by omega)
              obtain ⟨b, k2, b1, -⟩ := kd_lt hw (x := y) (by omega) (show c < kc t y by omega)
              have bb : ¬ nI b < 0 := nI_pos (by omega)
              rw [k1, oI_none] at tw
              rw [k2, oI_some] at ch
              simp only [r130_197, r130_198, r130_200, r130_202, r130_205, r130_208, r130_209, r130_210, r130_212, r130_214, r130_217, r130_220, r130_221, am_li0, am_liS, am_laR0, am_tL, m_oc, tw, ch, m1, bb, if_false, am_okI, am_okR, List.length_cons, List.length_nil, Nat.reduceAdd, Nat.zero_le, Nat.reduceLeDiff, and_true, true_and, true_or, eq_self]
            · obtain ⟨z, k1, hz⟩ := kdL_ex hR (show c < ctL R.2.2.1 (nI v) R.2.1 by omega)
              have zz : (0 : Int32) ≤ nI z := nI_le (a := 0) (Nat.zero_le _) (rOk_lt hR z hz)
              rw [k1, oI_some] at tw
              simp only [r130_197, r130_198, r130_200, r130_202, r130_205, r130_220, r130_221, am_li0, am_liS, am_laR0, am_tL, m_oc, tw, zz, if_true, am_okI, am_okR, List.length_cons, List.length_nil, Nat.reduceAdd, Nat.zero_le, Nat.reduceLeDiff, and_true, true_and, true_or, eq_self]
        · have hf : eqN R t 13 v y = false := by
            rw [show (13 : Nat) = 12 + 1 from rfl, eqN_s, decide_eq_false c2, Bool.and_false, Bool.false_and, Bool.false_and]
          refine ⟨s, false, fail hf, ⟨fun _ _ _ => rfl, rfl⟩, fun Q => ?_⟩
          rw [c1] at g5
          rw [r130_66, b0]
          simp only [r130_67, r130_68, r130_71, r130_72, r130_75, r130_76, r130_77, r130_79, r130_80, r130_83, r130_84, r130_85, r130_87, r130_88, r130_91, r130_93, r130_94, r130_95, r130_98, r130_100, r130_101, r130_102, r130_104, r130_105, r130_106, r130_109, r130_110, r130_113, r130_115, r130_116, r130_117, r130_120, r130_122, r130_123, r130_124, r130_126, r130_127, r130_128, r130_131, r130_132, am_li0, am_liS, am_laR0, g121_2, g121_3, g121_32, g121_33, g121_36, g121_37, a124, a125, a149, a150, a152, a153, h1, i1, i2, e1, e2, v1, v2, ix12, z1, z2, g2, g3, g5, g6, c2, not_true, if_false, List.length_cons, List.length_nil, List.set_cons_succ, List.set_cons_zero, Nat.reduceAdd, Nat.reduceLT, true_and, true_or, eq_self]
      · have hf : eqN R t 13 v y = false := by
          rw [show (13 : Nat) = 12 + 1 from rfl, eqN_s, decide_eq_false c1, Bool.false_and, Bool.false_and, Bool.false_and]
        refine ⟨s, false, fail hf, ⟨fun _ _ _ => rfl, rfl⟩, fun Q => ?_⟩
        rw [r130_66, b0]
        simp only [r130_67, r130_68, r130_71, r130_72, r130_75, r130_76, r130_77, r130_79, r130_80, r130_83, r130_84, r130_85, r130_87, r130_88, r130_91, r130_93, r130_94, r130_95, r130_98, r130_100, r130_101, r130_102, r130_104, r130_105, r130_106, r130_131, r130_132, am_li0, am_liS, am_laR0, g121_2, g121_32, g121_36, g121_37, a124, a149, a152, a153, h1, i1, i2, e1, e2, v1, v2, ix12, z1, z2, g2, g5, c1, not_false_eq_true, if_true, if_false, List.length_cons, List.length_nil, List.set_cons_succ, List.set_cons_zero, Nat.reduceAdd, Nat.reduceLT, true_and, true_or, eq_self]
end
