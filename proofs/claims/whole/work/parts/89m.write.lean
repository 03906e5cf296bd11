/-! The class writes its script -/
/-- one place of one array -/
def w1 (s : St) (q n : Nat) (x : Int32) : St := (va_up s.1 q (upd (s.1 q) n x), s.2)
theorem w1_2 (s : St) (q n : Nat) (x : Int32) : (w1 s q n x).2 = s.2 := rfl
theorem w1_o (s : St) {q p : Nat} (n : Nat) (x : Int32) (h : p ≠ q) : (w1 s q n x).1 p = s.1 p := up_ne _ _ h
theorem w1_q (s : St) (q n : Nat) (x : Int32) : (w1 s q n x).1 q = upd (s.1 q) n x := up_same _ _ _
theorem w1_a (s : St) (q n : Nat) (x : Int32) : (w1 s q n x).1 q n = x := by rw [w1_q, upd_s]
theorem w1_n (s : St) (q : Nat) {n k : Nat} (x : Int32) (h : k ≠ n) : (w1 s q n x).1 q k = s.1 q k := by rw [w1_q, upd_n _ _ h]
/-- one field -/
def w2 (s : St) (q k : Nat) (x : Int32) : St := (s.1, am_u2 s.2.1 q k x, s.2.2)
theorem w2_1 (s : St) (q k : Nat) (x : Int32) : (w2 s q k x).1 = s.1 := rfl
theorem w2_g (s : St) (q k : Nat) (x : Int32) : (w2 s q k x).2.2 = s.2.2 := rfl
theorem w2_a (s : St) (q k : Nat) (x : Int32) : (w2 s q k x).2.1 q k = x := u2_same _ _ _ _
theorem w2_o (s : St) {q k p j : Nat} (x : Int32) (h : ¬ (p = q ∧ j = k)) : (w2 s q k x).2.1 p j = s.2.1 p j := u2_ne _ _ h
/-- the j-th part of a step -/
def spC (p : Sp) : Nat → Int32
  | 0 => p.1
  | 1 => p.2.1
  | 2 => p.2.2.1
  | 3 => p.2.2.2.1
  | 4 => p.2.2.2.2.1
  | _ => p.2.2.2.2.2
/-- a Difference and its script -/
def isE (D : Nat) : Prop := isD D ∧ in_sk[D + 14]? = some (.inr (.inl (3, 6))) ∧ ∀ j, j < 6 → in_B (D + 14) j = some (D + 15 + j) ∧ in_sk[D + 15 + j]? = some (.inl (0, 24))
theorem isE_k {D : Nat} (h : D = 23 ∨ D = 59 ∨ D = 89) : isE D := by
  refine ⟨isD_k h, ?_, fun j hj => ?_⟩
  · rcases h with rfl | rfl | rfl <;> rfl
  · have hB := in_facts.2.1 j hj
    have ej : j = 0 ∨ j = 1 ∨ j = 2 ∨ j = 3 ∨ j = 4 ∨ j = 5 := by omega
    rcases h with rfl | rfl | rfl
    · exact ⟨hB.1, by rcases ej with rfl | rfl | rfl | rfl | rfl | rfl <;> rfl⟩
    · exact ⟨hB.2.1, by rcases ej with rfl | rfl | rfl | rfl | rfl | rfl <;> rfl⟩
    · exact ⟨hB.2.2, by rcases ej with rfl | rfl | rfl | rfl | rfl | rfl <;> rfl⟩
/-- the script at D holds these steps -/
def sc (s : St) (D : Nat) (l : List Sp) : Prop := s.2.1 (D + 13) 1 = nI l.length ∧ ∀ k p, l[k]? = some p → ∀ j, j < 6 → s.1 (D + 15 + j) k = spC p j
def frV (D : Nat) (s s' : St) : Prop := (∀ q, ¬ (D + 15 ≤ q ∧ q ≤ D + 20) → s'.1 q = s.1 q) ∧ (∀ q k, ¬ (q = D + 13 ∧ k = 1) → s'.2.1 q k = s.2.1 q k) ∧ s'.2.2 = s.2.2
theorem frV_r (D : Nat) (s : St) : frV D s s := ⟨fun _ _ => rfl, fun _ _ _ => rfl, rfl⟩
theorem frV_t {D : Nat} {s s1 s2 : St} (h : frV D s s1) (h' : frV D s1 s2) : frV D s s2 := ⟨fun q hq => (h'.1 q hq).trans (h.1 q hq), fun q k hq => (h'.2.1 q k hq).trans (h.2.1 q k hq), h'.2.2.trans h.2.2⟩
theorem frV_S {D : Nat} {s s' : St} (h : frV D s s') : frS D s s' := ⟨fun q hq => h.1 q (by omega), fun q k _ h2 => h.2.1 q k h2, h.2.2⟩
section
variable {L : Nat} {xs : Nat → Int32} {d : Nat} {s : St} {D : Nat}
theorem s_oc (h : isE D) : am_oc (mk s) (D + 13) = 2 := mk_oc h.1.2.2.2.2.2.1
theorem s_0 (h : isE D) {f : Value → Prop} : am_fd (mk s) (D + 13) 2 0 f = f (.ref (D + 14)) := mk_fd (.inl (D + 14)) h.1.2.2.2.2.2.1 rfl
theorem s_1 (h : isE D) {f : Value → Prop} : am_fd (mk s) (D + 13) 2 1 f = f (.int (s.2.1 (D + 13) 1)) := mk_fd (.inr 0) h.1.2.2.2.2.2.1 rfl
theorem s_v1 (h : isE D) {y o : Nat} {x : Int32} {f : am_S → Prop} : am_wf y o (mk s) (D + 13) 2 1 (.int x) f = f (mk (w2 s (D + 13) 1 x)) := am_k_wF (sk := in_sk) h.1.2.2.2.2.2.1 rfl rfl (fun h => by cases h)
theorem s_p (h : isE D) {j : Nat} (hj : j < 6) {f : Nat → Prop} : am_ar2 (mk s) (D + 14) (nI j) f = f (D + 15 + j) := by
  have e := am_k_ar (sk := in_sk) (A := s.1) (B := in_B) (F := s.2.1) (G := s.2.2) (p := D + 14) (t := 3) (n := 6) (i := nI j) (f := f) h.2.1 (Or.inr rfl)
  refine Eq.trans e ?_
  rw [nI_clamp (by omega), (h.2.2 j hj).1]
  apply propext
  exact ⟨fun q => q.2, fun q => ⟨in_of hj (by decide), q⟩⟩
theorem s_a (h : isE D) {j : Nat} (hj : j < 6) {i : Int32} {f : Int32 → Prop} : am_ai 0 (mk s) (D + 15 + j) i f = (am_in i 24 = true ∧ f (s.1 (D + 15 + j) i.toNatClampNeg)) := am_k_ai (sk := in_sk) (h.2.2 j hj).2
theorem s_w (h : isE D) {j : Nat} (hj : j < 6) {i x : Int32} {f : am_S → Prop} : am_wi 0 (mk s) (D + 15 + j) i x f = (am_in i 24 = true ∧ f (mk (w1 s (D + 15 + j) i.toNatClampNeg x))) := am_k_wi (sk := in_sk) (h.2.2 j hj).2
theorem c_write {l : List Sp} (h : isE D) (hs : sc s D l) (hl : l.length < 24) (a0 a1 a2 a3 a4 a5 : Int32) :
    ∃ s' : St, sc s' D (l ++ [(a0, a1, a2, a3, a4, a5)]) ∧ frV D s s' ∧ ∀ Q : Option Value → am_S → Prop, am_Call L xs d 51 [.ref (D + 13), .int a0, .int a1, .int a2, .int a3, .int a4, .int a5] (mk s) Q = Q none (mk s') := by
  have p0 : ∀ (s : St) (f : Nat → Prop), am_ar2 (mk s) (D + 14) 0 f = f (D + 15 + 0) := fun s f => s_p (s := s) h (j := 0) (by decide)
  have p1 : ∀ (s : St) (f : Nat → Prop), am_ar2 (mk s) (D + 14) 1 f = f (D + 15 + 1) := fun s f => s_p (s := s) h (j := 1) (by decide)
  have p2 : ∀ (s : St) (f : Nat → Prop), am_ar2 (mk s) (D + 14) 2 f = f (D + 15 + 2) := fun s f => s_p (s := s) h (j := 2) (by decide)
  have p3 : ∀ (s : St) (f : Nat → Prop), am_ar2 (mk s) (D + 14) 3 f = f (D + 15 + 3) := fun s f => s_p (s := s) h (j := 3) (by decide)
  have p4 : ∀ (s : St) (f : Nat → Prop), am_ar2 (mk s) (D + 14) 4 f = f (D + 15 + 4) := fun s f => s_p (s := s) h (j := 4) (by decide)
  have p5 : ∀ (s : St) (f : Nat → Prop), am_ar2 (mk s) (D + 14) 5 f = f (D + 15 + 5) := fun s f => s_p (s := s) h (j := 5) (by decide)
  have k1 : am_in (nI l.length) 24 = true := in_of hl (by decide)
  have k2 : (nI l.length).toNatClampNeg = l.length := nI_clamp (by omega)
  have k3 : nI l.length < 24 := nI_lt (b := 24) hl (by decide)
  have e1 := hs.1
  refine ⟨w2 (w1 (w1 (w1 (w1 (w1 (w1 s (D + 15 + 0) l.length a0) (D + 15 + 1) l.length a1) (D + 15 + 2) l.length a2) (D + 15 + 3) l.length a3) (D + 15 + 4) l.length a4) (D + 15 + 5) l.length a5) (D + 13) 1 (nI (l.length + 1)), ⟨?_, fun k p hk j hj => ?_⟩, ⟨fun q hq => ?_, fun q k hq => ?_, rfl⟩, fun Q => ?_⟩
  · rw [w2_a, List.length_append]; rfl
  · rw [w2_1]
    have ej : j = 0 ∨ j = 1 ∨ j = 2 ∨ j = 3 ∨ j = 4 ∨ j = 5 := by omega
    by_cases e : k = l.length
    · subst e
      rw [List.getElem?_append_right (Nat.le_refl _), Nat.sub_self] at hk
      have hk : some _ = some p := hk
      cases hk
      rcases ej with rfl | rfl | rfl | rfl | rfl | rfl
      · rw [w1_o _ _ _ (by omega), w1_o _ _ _ (by omega), w1_o _ _ _ (by omega), w1_o _ _ _ (by omega), w1_o _ _ _ (by omega), w1_a]; rfl
      · rw [w1_o _ _ _ (by omega), w1_o _ _ _ (by omega), w1_o _ _ _ (by omega), w1_o _ _ _ (by omega), w1_a]; rfl
      · rw [w1_o _ _ _ (by omega), w1_o _ _ _ (by omega), w1_o _ _ _ (by omega), w1_a]; rfl
      · rw [w1_o _ _ _ (by omega), w1_o _ _ _ (by omega), w1_a]; rfl
      · rw [w1_o _ _ _ (by omega), w1_a]; rfl
      · rw [w1_a]; rfl
    · have hkl : k < l.length := by
        have := (List.getElem?_eq_some_iff.mp hk).1
        rw [List.length_append, List.length_cons, List.length_nil] at this
        omega
      rw [List.getElem?_append_left hkl] at hk
      rw [← hs.2 k p hk j hj]
      rcases ej with rfl | rfl | rfl | rfl | rfl | rfl
      · rw [w1_o _ _ _ (by omega), w1_o _ _ _ (by omega), w1_o _ _ _ (by omega), w1_o _ _ _ (by omega), w1_o _ _ _ (by omega), w1_n _ _ _ e]
      · rw [w1_o _ _ _ (by omega), w1_o _ _ _ (by omega), w1_o _ _ _ (by omega), w1_o _ _ _ (by omega), w1_n _ _ _ e, w1_o _ _ _ (by omega)]
      · rw [w1_o _ _ _ (by omega), w1_o _ _ _ (by omega), w1_o _ _ _ (by omega), w1_n _ _ _ e, w1_o _ _ _ (by omega), w1_o _ _ _ (by omega)]
      · rw [w1_o _ _ _ (by omega), w1_o _ _ _ (by omega), w1_n _ _ _ e, w1_o _ _ _ (by omega), w1_o _ _ _ (by omega), w1_o _ _ _ (by omega)]
      · rw [w1_o _ _ _ (by omega), w1_n _ _ _ e, w1_o _ _ _ (by omega), w1_o _ _ _ (by omega), w1_o _ _ _ (by omega), w1_o _ _ _ (by omega)]
      · rw [w1_n _ _ _ e, w1_o _ _ _ (by omega), w1_o _ _ _ (by omega), w1_o _ _ _ (by omega), w1_o _ _ _ (by omega), w1_o _ _ _ (by omega)]
  · rw [w2_1, w1_o _ _ _ (by omega), w1_o _ _ _ (by omega), w1_o _ _ _ (by omega), w1_o _ _ _ (by omega), w1_o _ _ _ (by omega), w1_o _ _ _ (by omega)]
  · rw [w2_o _ _ hq]; rfl
  · simp only [e51, r51_0, r51_1, r51_4, r51_6, r51_9, r51_10, r51_11, r51_14, r51_15, r51_16, r51_17, r51_20, r51_21, r51_22, r51_23, r51_26, r51_27, r51_28, r51_29, r51_32, r51_33, r51_34, r51_35, r51_38, r51_39, r51_40, r51_41, r51_44, r51_45, r51_46, r51_47, r51_50, r51_51, r51_52, r51_53, r51_56, r51_58, r51_59, r51_60, r51_63, r51_64, r51_65, r51_66, r51_69, r51_71, r51_72, r51_73, r51_76, r51_77, r51_78, r51_79, r51_82, r51_84, r51_85, r51_86, r51_87, r51_90, r51_91, r51_92, r51_95, am_li0, am_liS, am_laR0, s_0 h, s_1 h, s_v1 h, p0, p1, p2, p3, p4, p5, s_w h (show 0 < 6 by decide), s_w h (show 1 < 6 by decide), s_w h (show 2 < 6 by decide), s_w h (show 3 < 6 by decide), s_w h (show 4 < 6 by decide), s_w h (show 5 < 6 by decide), w1_2, e1, k1, k2, k3, nI_1, am_okR, am_okI, if_true, true_and]
/-- with the step as its caller gives it -/
theorem c_insertNode {l : List Sp} (h : isE D) (hs : sc s D l) (hl : l.length < 24) (a1 a2 a3 a4 a5 : Int32) :
    ∃ s' : St, sc s' D (l ++ [(0, a1, a2, a3, a4, a5)]) ∧ frV D s s' ∧ ∀ Q : Option Value → am_S → Prop, am_Call L xs (d + 1) 50 [.ref (D + 13), .int a1, .int a2, .int a3, .int a4, .int a5] (mk s) Q = Q none (mk s') := by
  obtain ⟨s', h1, h2, h3⟩ := c_write (L := L) (xs := xs) (d := d) h hs hl 0 a1 a2 a3 a4 a5
  refine ⟨s', h1, h2, fun Q => ?_⟩
  simp only [e50, r50_0, r50_1, r50_2, r50_3, r50_4, r50_5, r50_7, r50_9, r50_12, am_li0, am_liS, am_laR0, am_tN, s_oc h, h3, am_okI, List.length_nil, Nat.zero_le, and_true, true_and]
theorem c_updateNode {l : List Sp} (h : isE D) (hs : sc s D l) (hl : l.length < 24) (a1 a5 : Int32) :
    ∃ s' : St, sc s' D (l ++ [(1, a1, -1, -1, -1, a5)]) ∧ frV D s s' ∧ ∀ Q : Option Value → am_S → Prop, am_Call L xs (d + 1) 52 [.ref (D + 13), .int a1, .int a5] (mk s) Q = Q none (mk s') := by
  obtain ⟨s', h1, h2, h3⟩ := c_write (L := L) (xs := xs) (d := d) h hs hl 1 a1 (-1) (-1) (-1) a5
  refine ⟨s', h1, h2, fun Q => ?_⟩
  simp only [e52, r52_0, r52_1, r52_2, r52_3, r52_4, r52_5, r52_6, r52_7, r52_10, am_li0, am_liS, am_laR0, am_tN, s_oc h, h3, am_okI, List.length_nil, Nat.zero_le, and_true, true_and]
theorem c_moveNode {l : List Sp} (h : isE D) (hs : sc s D l) (hl : l.length < 24) (a1 a2 a3 : Int32) :
    ∃ s' : St, sc s' D (l ++ [(2, a1, a2, a3, -1, 0)]) ∧ frV D s s' ∧ ∀ Q : Option Value → am_S → Prop, am_Call L xs (d + 1) 53 [.ref (D + 13), .int a1, .int a2, .int a3] (mk s) Q = Q none (mk s') := by
  obtain ⟨s', h1, h2, h3⟩ := c_write (L := L) (xs := xs) (d := d) h hs hl 2 a1 a2 a3 (-1) 0
  refine ⟨s', h1, h2, fun Q => ?_⟩
  simp only [e53, r53_0, r53_1, r53_2, r53_3, r53_4, r53_5, r53_6, r53_7, r53_10, am_li0, am_liS, am_laR0, am_tN, s_oc h, h3, am_okI, List.length_nil, Nat.zero_le, and_true, true_and]
theorem c_deleteNode {l : List Sp} (h : isE D) (hs : sc s D l) (hl : l.length < 24) (a1 : Int32) :
    ∃ s' : St, sc s' D (l ++ [(3, a1, -1, -1, -1, 0)]) ∧ frV D s s' ∧ ∀ Q : Option Value → am_S → Prop, am_Call L xs (d + 1) 55 [.ref (D + 13), .int a1] (mk s) Q = Q none (mk s') := by
  obtain ⟨s', h1, h2, h3⟩ := c_write (L := L) (xs := xs) (d := d) h hs hl 3 a1 (-1) (-1) (-1) 0
  refine ⟨s', h1, h2, fun Q => ?_⟩
  simp only [e55, r55_0, r55_1, r55_2, r55_3, r55_4, r55_5, r55_6, r55_7, r55_10, am_li0, am_liS, am_laR0, am_tN, s_oc h, h3, am_okI, List.length_nil, Nat.zero_le, and_true, true_and]
end
