/-! The reference keeps a script; its diff -/
def kp6 (s : St) (n : Nat) (f : Nat → Int32) : St := w1 (w1 (w1 (w1 (w1 (w1 s 139 n (f 139)) 140 n (f 140)) 141 n (f 141)) 142 n (f 142)) 143 n (f 143)) 144 n (f 144)
theorem kp6_at (s : St) (n : Nat) (f : Nat → Int32) {q : Nat} (h : 139 ≤ q) (h' : q ≤ 144) : (kp6 s n f).1 q = upd (s.1 q) n (f q) := by
  unfold kp6
  have eq : q = 139 ∨ q = 140 ∨ q = 141 ∨ q = 142 ∨ q = 143 ∨ q = 144 := by omega
  rcases eq with rfl | rfl | rfl | rfl | rfl | rfl
  · rw [w1_o _ _ _ (by omega), w1_o _ _ _ (by omega), w1_o _ _ _ (by omega), w1_o _ _ _ (by omega), w1_o _ _ _ (by omega), w1_q]
  · rw [w1_o _ _ _ (by omega), w1_o _ _ _ (by omega), w1_o _ _ _ (by omega), w1_o _ _ _ (by omega), w1_q, w1_o _ _ _ (by omega)]
  · rw [w1_o _ _ _ (by omega), w1_o _ _ _ (by omega), w1_o _ _ _ (by omega), w1_q, w1_o _ _ _ (by omega), w1_o _ _ _ (by omega)]
  · rw [w1_o _ _ _ (by omega), w1_o _ _ _ (by omega), w1_q, w1_o _ _ _ (by omega), w1_o _ _ _ (by omega), w1_o _ _ _ (by omega)]
  · rw [w1_o _ _ _ (by omega), w1_q, w1_o _ _ _ (by omega), w1_o _ _ _ (by omega), w1_o _ _ _ (by omega), w1_o _ _ _ (by omega)]
  · rw [w1_q, w1_o _ _ _ (by omega), w1_o _ _ _ (by omega), w1_o _ _ _ (by omega), w1_o _ _ _ (by omega), w1_o _ _ _ (by omega)]
theorem kp6_o (s : St) (n : Nat) (f : Nat → Int32) {q : Nat} (h : ¬ (139 ≤ q ∧ q ≤ 144)) : (kp6 s n f).1 q = s.1 q := by
  unfold kp6
  rw [w1_o _ _ _ (by omega), w1_o _ _ _ (by omega), w1_o _ _ _ (by omega), w1_o _ _ _ (by omega), w1_o _ _ _ (by omega), w1_o _ _ _ (by omega)]
theorem ix40 (i k : Nat) : (40 : Int32) * nI i + nI k = nI (40 * i + k) := by
  show nI 40 * nI i + nI k = _
  rw [pk_mul, nI_add]
/-- the first k steps are copied -/
def kpA (s0 s : St) (i k : Nat) : Prop := (∀ q m, 139 ≤ q → q ≤ 144 → m < k → s.1 q (40 * i + m) = s0.1 q m) ∧ (∀ q m, 139 ≤ q → q ≤ 144 → ¬ (40 * i ≤ m ∧ m < 40 * i + 40) → s.1 q m = s0.1 q m) ∧ (∀ q, ¬ (139 ≤ q ∧ q ≤ 144) → s.1 q = s0.1 q) ∧ s.2 = s0.2
section
variable {L : Nat} {xs : Nat → Int32} {d : Nat}
theorem m_kp_loop {s0 : St} {i : Nat} (h0 : 0 < i) (h4 : i < 4) : ∀ (m k : Nat) (s : St), 40 - k = m → k ≤ 40 → kpA s0 s i k →
    ∃ s' : St, kpA s0 s' i 40 ∧ ∀ Q : Option Value → am_S → Prop, am_Rn L xs d 108 26 [.ref 121, .int (nI i), .int (nI k)] [] (mk s) Q = Q none (mk s')
  | 0, k, s, hm, hk, hA => by
    have e : k = 40 := by omega
    subst e
    refine ⟨s, hA, fun Q => ?_⟩
    have h1 : (40 : Int32) ≤ nI 40 := by decide
    rw [r108_26]
    simp only [r108_27, r108_29, r108_140, am_li0, am_liS, h1, if_true]
  | m + 1, k, s, hm, hk, hA => by
    obtain ⟨a1, a2, a3, a4⟩ := hA
    have h1 : ¬ (40 : Int32) ≤ nI k := nI_ge (b := 40) (by omega) (by decide)
    have k1 : am_in (nI k) 160 = true := in_of (by omega) (by decide)
    have k2 : (nI k).toNatClampNeg = k := nI_clamp (by omega)
    have z1 : am_in (nI (40 * i + k)) 160 = true := in_of (by omega) (by decide)
    have z2 : (nI (40 * i + k)).toNatClampNeg = 40 * i + k := nI_clamp (by omega)
    obtain ⟨s', b1, b2⟩ := m_kp_loop (s0 := s0) h0 h4 m (k + 1) (kp6 s (40 * i + k) (fun q => s.1 q k)) (by omega) (by omega) ⟨fun q n q1 q2 hn => by
        rw [kp6_at _ _ _ q1 q2]
        by_cases e : n = k
        · rw [e, upd_s]; exact a2 q k q1 q2 (by omega)
        · rw [upd_n _ _ (by omega)]; exact a1 q n q1 q2 (by omega), fun q n q1 q2 hn => by
        rw [kp6_at _ _ _ q1 q2, upd_n _ _ (by omega)]; exact a2 q n q1 q2 hn, fun q hq => by rw [kp6_o _ _ _ hq]; exact a3 q hq, a4⟩
    refine ⟨s', b1, fun Q => ?_⟩
    rw [← b2 Q, r108_26]
    unfold kp6
    have o2 : ∀ (s : St) (n : Nat) (x : Int32), (w1 s 139 n x).1 140 = s.1 140 := fun s n x => w1_o s n x (by omega)
    have o3 : ∀ (s : St) (n : Nat) (x : Int32), (w1 s 139 n x).1 141 = s.1 141 := fun s n x => w1_o s n x (by omega)
    have o4 : ∀ (s : St) (n : Nat) (x : Int32), (w1 s 139 n x).1 142 = s.1 142 := fun s n x => w1_o s n x (by omega)
    have o5 : ∀ (s : St) (n : Nat) (x : Int32), (w1 s 139 n x).1 143 = s.1 143 := fun s n x => w1_o s n x (by omega)
    have o6 : ∀ (s : St) (n : Nat) (x : Int32), (w1 s 139 n x).1 144 = s.1 144 := fun s n x => w1_o s n x (by omega)
    have p3 : ∀ (s : St) (n : Nat) (x : Int32), (w1 s 140 n x).1 141 = s.1 141 := fun s n x => w1_o s n x (by omega)
    have p4 : ∀ (s : St) (n : Nat) (x : Int32), (w1 s 140 n x).1 142 = s.1 142 := fun s n x => w1_o s n x (by omega)
    have p5 : ∀ (s : St) (n : Nat) (x : Int32), (w1 s 140 n x).1 143 = s.1 143 := fun s n x => w1_o s n x (by omega)
    have p6 : ∀ (s : St) (n : Nat) (x : Int32), (w1 s 140 n x).1 144 = s.1 144 := fun s n x => w1_o s n x (by omega)
    have r4 : ∀ (s : St) (n : Nat) (x : Int32), (w1 s 141 n x).1 142 = s.1 142 := fun s n x => w1_o s n x (by omega)
    have r5 : ∀ (s : St) (n : Nat) (x : Int32), (w1 s 141 n x).1 143 = s.1 143 := fun s n x => w1_o s n x (by omega)
    have r6 : ∀ (s : St) (n : Nat) (x : Int32), (w1 s 141 n x).1 144 = s.1 144 := fun s n x => w1_o s n x (by omega)
    have t5 : ∀ (s : St) (n : Nat) (x : Int32), (w1 s 142 n x).1 143 = s.1 143 := fun s n x => w1_o s n x (by omega)
    have t6 : ∀ (s : St) (n : Nat) (x : Int32), (w1 s 142 n x).1 144 = s.1 144 := fun s n x => w1_o s n x (by omega)
    have u6 : ∀ (s : St) (n : Nat) (x : Int32), (w1 s 143 n x).1 144 = s.1 144 := fun s n x => w1_o s n x (by omega)
    simp only [r108_27, r108_29, r108_32, r108_33, r108_36, r108_38, r108_39, r108_40, r108_41, r108_42, r108_43, r108_46, r108_47, r108_48, r108_49, r108_50, r108_53, r108_55, r108_56, r108_57, r108_58, r108_59, r108_60, r108_63, r108_64, r108_65, r108_66, r108_67, r108_70, r108_72, r108_73, r108_74, r108_75, r108_76, r108_77, r108_80, r108_81, r108_82, r108_83, r108_84, r108_87, r108_89, r108_90, r108_91, r108_92, r108_93, r108_94, r108_97, r108_98, r108_99, r108_100, r108_101, r108_104, r108_106, r108_107, r108_108, r108_109, r108_110, r108_111, r108_114, r108_115, r108_116, r108_117, r108_118, r108_121, r108_123, r108_124, r108_125, r108_126, r108_127, r108_128, r108_131, r108_132, r108_133, r108_134, r108_137, am_li0, am_liS, am_laR0, g121_19, g121_20, g121_21, g121_22, g121_23, g121_24, a139, a140, a141, a142, a143, a144, w139', w140', w141', w142', w143', w144', o2, o3, o4, o5, o6, p3, p4, p5, p6, r4, r5, r6, t5, t6, u6, h1, k1, k2, ix40, z1, z2, nI_1, if_false, List.length_cons, List.length_nil, List.set_cons_succ, List.set_cons_zero, Nat.reduceAdd, Nat.reduceLT, Nat.zero_le, Nat.reduceLeDiff, and_true, true_and]
/-- what keep may change -/
def frY (i : Nat) (s s' : St) : Prop := (∀ q, ¬ (138 ≤ q ∧ q ≤ 145) → s'.1 q = s.1 q) ∧ (∀ q m, 139 ≤ q → q ≤ 144 → ¬ (40 * i ≤ m ∧ m < 40 * i + 40) → s'.1 q m = s.1 q m) ∧ (∀ m, m ≠ i → s'.1 138 m = s.1 138 m ∧ s'.1 145 m = s.1 145 m) ∧ s'.2 = s.2
theorem m_keep {s : St} {i : Nat} {l : List Sp} (h0 : 0 < i) (h4 : i < 4) (hs : msc s 0 l) (hl : l.length ≤ 40) :
    ∃ s' : St, msc s' i l ∧ s'.1 145 i = s.1 145 0 ∧ frY i s s' ∧ ∀ Q : Option Value → am_S → Prop, am_Call L xs d 108 [.ref 121, .int (nI i)] (mk s) Q = Q none (mk s') := by
  have e1 := hs.1
  generalize hs1 : w1 (w1 s 138 i (s.1 138 0)) 145 i (s.1 145 0) = s1
  have o1 : ∀ q, q ≠ 138 → q ≠ 145 → s1.1 q = s.1 q := fun q n1 n2 => by rw [← hs1, w1_o _ _ _ n2, w1_o _ _ _ n1]
  have o2 : s1.1 138 = upd (s.1 138) i (s.1 138 0) := by rw [← hs1, w1_o _ _ _ (by omega), w1_q]
  have o3 : s1.1 145 = upd (s.1 145) i (s.1 145 0) := by rw [← hs1, w1_q, w1_o _ _ _ (by omega)]
  have o4 : s1.2 = s.2 := by rw [← hs1]; rfl
  obtain ⟨s', ⟨b1, b2, b3, b4⟩, b5⟩ := m_kp_loop (L := L) (xs := xs) (d := d) (s0 := s1) h0 h4 40 0 s1 rfl (by omega) ⟨fun q m _ _ hm => absurd hm (Nat.not_lt_zero _), fun _ _ _ _ _ => rfl, fun _ _ => rfl, rfl⟩
  refine ⟨s', ⟨?_, fun k p hk j hj => ?_⟩, ?_, ⟨fun q hq => ?_, fun q m q1 q2 hm => ?_, fun m hm => ⟨?_, ?_⟩, ?_⟩, fun Q => ?_⟩
  · rw [b3 138 (by omega), o2, upd_s]; exact e1
  · have hkl : k < l.length := (List.getElem?_eq_some_iff.mp hk).1
    rw [b1 _ k (by omega) (by omega) (by omega), o1 _ (by omega) (by omega)]
    have := hs.2 k p hk j hj
    rw [show 40 * 0 + k = k by omega] at this
    exact this
  · rw [b3 145 (by omega), o3, upd_s]
  · rw [b3 q (by omega), o1 q (by omega) (by omega)]
  · rw [b2 q m q1 q2 hm, o1 q (by omega) (by omega)]
  · rw [b3 138 (by omega), o2, upd_n _ _ hm]
  · rw [b3 145 (by omega), o3, upd_n _ _ hm]
  · rw [b4, o4]
  · have b5 : am_Rn L xs d 108 26 [.ref 121, .int (nI i), .int 0] [] (mk s1) Q = _ := b5 Q
    have z1 : am_in 0 4 = true := by decide
    have z2 : (0 : Int32).toNatClampNeg = 0 := rfl
    have i1 : am_in (nI i) 4 = true := in_of (by omega) (by decide)
    have i2 : (nI i).toNatClampNeg = i := nI_clamp (by omega)
    have x1 : ∀ (n : Nat) (x : Int32), (w1 s 138 n x).1 145 = s.1 145 := fun n x => w1_o s n x (by omega)
    rw [← b5, ← hs1]
    simp only [e108, r108_0, r108_1, r108_4, r108_5, r108_6, r108_9, r108_10, r108_11, r108_12, r108_13, r108_16, r108_17, r108_18, r108_21, r108_22, r108_23, r108_24, r108_25, am_li0, am_liS, am_laR0, g121_18, g121_25, a138, a145, w138', w145', z1, z2, i1, i2, x1, List.length_cons, List.length_nil, List.set_cons_succ, List.set_cons_zero, Nat.reduceAdd, Nat.reduceLT, Nat.zero_le, Nat.reduceLeDiff, and_true, true_and]
/-! the copy of the tree that a diff begins with -/
theorem w122' {s : St} {i x : Int32} {f : am_S → Prop} : am_wi 0 (mk s) 122 i x f = (am_in i 4 = true ∧ f (mk (w1 s 122 i.toNatClampNeg x))) := w122
theorem w123' {s : St} {i x : Int32} {f : am_S → Prop} : am_wi 0 (mk s) 123 i x f = (am_in i 48 = true ∧ f (mk (w1 s 123 i.toNatClampNeg x))) := w123
theorem w124' {s : St} {i x : Int32} {f : am_S → Prop} : am_wi 0 (mk s) 124 i x f = (am_in i 48 = true ∧ f (mk (w1 s 124 i.toNatClampNeg x))) := w124
theorem w125' {s : St} {i x : Int32} {f : am_S → Prop} : am_wi 0 (mk s) 125 i x f = (am_in i 48 = true ∧ f (mk (w1 s 125 i.toNatClampNeg x))) := w125
theorem w146' {s : St} {i x : Int32} {f : am_S → Prop} : am_wi 0 (mk s) 146 i x f = (am_in i 12 = true ∧ f (mk (w1 s 146 i.toNatClampNeg x))) := w146
def cy4 (s : St) (j k : Nat) : St := w1 (w1 (w1 (w1 s 123 (36 + k) (s.1 123 (12 * j + k))) 124 (36 + k) (s.1 124 (12 * j + k))) 125 (36 + k) (s.1 125 (12 * j + k))) 146 k (s.1 126 k)
def cyA (s0 s : St) (j k : Nat) : Prop := (∀ q m, 123 ≤ q → q ≤ 125 → m < k → s.1 q (36 + m) = s0.1 q (12 * j + m)) ∧ (∀ q m, 123 ≤ q → q ≤ 125 → m < 36 → s.1 q m = s0.1 q m) ∧ (∀ m, m < k → s.1 146 m = s0.1 126 m) ∧ (∀ q, ¬ (123 ≤ q ∧ q ≤ 125) → q ≠ 146 → s.1 q = s0.1 q) ∧ s.2 = s0.2
theorem ix36 (k : Nat) : (36 : Int32) + nI k = nI (36 + k) := by
  show nI 36 + nI k = _
  rw [nI_add]
theorem m_cy_loop {s0 : St} {j : Nat} {v2 : Value} (hj : j < 3) : ∀ (m k : Nat) (s : St), 12 - k = m → k ≤ 12 → cyA s0 s j k →
    ∃ s' : St, cyA s0 s' j 12 ∧ ∀ Q : Option Value → am_S → Prop, am_Rn L xs d 93 64 [.ref 121, .int (nI j), v2, .int (nI k)] [] (mk s) Q = Q (some (.int (s'.1 138 1))) (mk s')
  | 0, k, s, hm, hk, hA => by
    have e : k = 12 := by omega
    subst e
    refine ⟨s, hA, fun Q => ?_⟩
    have h1 : (12 : Int32) ≤ nI 12 := by decide
    have z1 : am_in 1 4 = true := by decide
    have z2 : (1 : Int32).toNatClampNeg = 1 := rfl
    rw [r93_64]
    simp only [r93_65, r93_67, r93_148, r93_149, r93_152, r93_153, r93_154, am_li0, am_liS, am_laR0, g121_18, a138, h1, z1, z2, if_true, true_and]
  | m + 1, k, s, hm, hk, hA => by
    obtain ⟨a1, a2, a3, a4, a5⟩ := hA
    have h1 : ¬ (12 : Int32) ≤ nI k := nI_ge (b := 12) (by omega) (by decide)
    have k1 : am_in (nI k) 12 = true := in_of (by omega) (by decide)
    have k2 : (nI k).toNatClampNeg = k := nI_clamp (by omega)
    have z1 : am_in (nI (12 * j + k)) 48 = true := in_of (by omega) (by decide)
    have z2 : (nI (12 * j + k)).toNatClampNeg = 12 * j + k := nI_clamp (by omega)
    have z3 : am_in (nI (36 + k)) 48 = true := in_of (by omega) (by decide)
    have z4 : (nI (36 + k)).toNatClampNeg = 36 + k := nI_clamp (by omega)
    have c1 : ∀ q, 123 ≤ q → q ≤ 125 → (cy4 s j k).1 q = upd (s.1 q) (36 + k) (s.1 q (12 * j + k)) := fun q q1 q2 => by
      unfold cy4
      have eq : q = 123 ∨ q = 124 ∨ q = 125 := by omega
      rcases eq with rfl | rfl | rfl
      · rw [w1_o _ _ _ (by omega), w1_o _ _ _ (by omega), w1_o _ _ _ (by omega), w1_q]
      · rw [w1_o _ _ _ (by omega), w1_o _ _ _ (by omega), w1_q, w1_o _ _ _ (by omega)]
      · rw [w1_o _ _ _ (by omega), w1_q, w1_o _ _ _ (by omega), w1_o _ _ _ (by omega)]
    have c2 : (cy4 s j k).1 146 = upd (s.1 146) k (s.1 126 k) := by
      unfold cy4
      rw [w1_q, w1_o _ _ _ (by omega), w1_o _ _ _ (by omega), w1_o _ _ _ (by omega)]
    have c3 : ∀ q, ¬ (123 ≤ q ∧ q ≤ 125) → q ≠ 146 → (cy4 s j k).1 q = s.1 q := fun q q1 q2 => by
      unfold cy4
      rw [w1_o _ _ _ (by omega), w1_o _ _ _ (by omega), w1_o _ _ _ (by omega), w1_o _ _ _ (by omega)]
    obtain ⟨s', b1, b2⟩ := m_cy_loop (s0 := s0) (v2 := v2) hj m (k + 1) (cy4 s j k) (by omega) (by omega) ⟨fun q n q1 q2 hn => by
        rw [c1 q q1 q2]
        by_cases e : n = k
        · rw [e, upd_s]; exact a2 q _ q1 q2 (by omega)
        · rw [upd_n _ _ (by omega)]; exact a1 q n q1 q2 (by omega), fun q n q1 q2 hn => by
        rw [c1 q q1 q2, upd_n _ _ (by omega)]; exact a2 q n q1 q2 hn, fun n hn => by
        rw [c2]
        by_cases e : n = k
        · rw [e, upd_s, a4 126 (by omega) (by omega)]
        · rw [upd_n _ _ e]; exact a3 n (by omega), fun q q1 q2 => by rw [c3 q q1 q2]; exact a4 q q1 q2, a5⟩
    refine ⟨s', b1, fun Q => ?_⟩
    rw [← b2 Q, r93_64]
    unfold cy4
    have o1 : ∀ (s : St) (n : Nat) (x : Int32), (w1 s 123 n x).1 124 = s.1 124 := fun s n x => w1_o s n x (by omega)
    have o2 : ∀ (s : St) (n : Nat) (x : Int32), (w1 s 123 n x).1 125 = s.1 125 := fun s n x => w1_o s n x (by omega)
    have o3 : ∀ (s : St) (n : Nat) (x : Int32), (w1 s 124 n x).1 125 = s.1 125 := fun s n x => w1_o s n x (by omega)
    have o4 : ∀ (s : St) (n : Nat) (x : Int32), (w1 s 123 n x).1 126 = s.1 126 := fun s n x => w1_o s n x (by omega)
    have o5 : ∀ (s : St) (n : Nat) (x : Int32), (w1 s 124 n x).1 126 = s.1 126 := fun s n x => w1_o s n x (by omega)
    have o6 : ∀ (s : St) (n : Nat) (x : Int32), (w1 s 125 n x).1 126 = s.1 126 := fun s n x => w1_o s n x (by omega)
    simp only [r93_65, r93_67, r93_70, r93_71, r93_74, r93_76, r93_77, r93_78, r93_79, r93_82, r93_84, r93_85, r93_86, r93_87, r93_88, r93_89, r93_90, r93_91, r93_94, r93_96, r93_97, r93_98, r93_99, r93_102, r93_104, r93_105, r93_106, r93_107, r93_108, r93_109, r93_110, r93_111, r93_114, r93_116, r93_117, r93_118, r93_119, r93_122, r93_124, r93_125, r93_126, r93_127, r93_128, r93_129, r93_130, r93_131, r93_134, r93_135, r93_136, r93_139, r93_140, r93_141, r93_142, r93_145, am_li0, am_liS, am_laR0, g121_1, g121_2, g121_3, g121_4, g121_27, a123, a124, a125, a126, w123', w124', w125', w146', o1, o2, o3, o4, o5, o6, h1, k1, k2, ix12, ix36, z1, z2, z3, z4, nI_1, if_false, List.length_cons, List.length_nil, List.set_cons_succ, List.set_cons_zero, Nat.reduceAdd, Nat.reduceLT, Nat.zero_le, Nat.reduceLeDiff, and_true, true_and]
/-- what the reference's diff may change beside its own results -/
def frD (s s' : St) : Prop := (∀ q, q < 122 ∨ 146 < q → s'.1 q = s.1 q) ∧ (∀ i t, i < 3 → t.1 ≤ 12 → mT s i t → mT s' i t) ∧ (∀ q k, ¬ (q = 121 ∧ k = 16) → ¬ (q = 121 ∧ k = 17) → ¬ (q = 121 ∧ k = 26) → s'.2.1 q k = s.2.1 q k) ∧ s'.2.2 = s.2.2
theorem v121_26' {s : St} {y o : Nat} {f : am_S → Prop} : am_wf y o (mk s) 121 6 26 (.int 1) f = f (mk (w2 s 121 26 1)) := v121_26 (Or.inr rfl)
theorem m_diff {s : St} {j j' : Nat} {t w : Tr} {H : Nat → Nat} (h : j < 3) (h' : j' < 3) (hw : tW t) (hw' : tW w) (hH : hP t H) (q1 : mT s j t) (q2 : mT s j' w) (ht : 0 < t.1) (hu : 0 < w.1) :
    ∃ (s' : St) (M : Pr) (X : Nat → Bool), prt t w H M ∧ sT t w M t.1 X ∧ msc s' 1 (scr t w M X) ∧ mT s' 3 t ∧ (∀ n, n < 12 → s'.1 146 n = oI (M.1 n)) ∧ s'.2.1 121 26 = 1 ∧ frD s s' ∧ ∀ Q : Option Value → am_S → Prop, am_Call L xs (d + 6) 93 [.ref 121, .int (nI j), .int (nI j')] (mk s) Q = Q (some (.int (nI (scr t w M X).length))) (mk s') := by
  have h12 := hw.1
  have h12' := hw'.1
  obtain ⟨s1, M, X, ⟨a1, a1'⟩, a2, a3, a4, a5, a6, a7⟩ := m_work (L := L) (xs := xs) (d := d) h h' hw hw' hH q1 q2 ht hu
  obtain ⟨l1, l2⟩ := scr_len (X := X) hw hw' hu (prt_I hw hw' hH a1) a1'
  obtain ⟨s2, b1, b2, b3, b4⟩ := m_keep (L := L) (xs := xs) (d := d + 5) (i := 1) (by omega) (by omega) a3 (by omega)
  generalize hs3 : w1 (w2 s2 121 26 1) 122 3 (s2.1 122 j) = s3
  have o1 : ∀ q, q ≠ 122 → s3.1 q = s2.1 q := fun q n1 => by rw [← hs3, w1_o _ _ _ n1, w2_1]
  have o2 : s3.1 122 = upd (s2.1 122) 3 (s2.1 122 j) := by rw [← hs3, w1_q, w2_1]
  have o3 : s3.2.1 121 26 = 1 := by rw [← hs3, w1_2, w2_a]
  have o4 : ∀ q k, ¬ (q = 121 ∧ k = 26) → s3.2.1 q k = s2.2.1 q k := fun q k n1 => by rw [← hs3, w1_2, w2_o _ _ n1]
  have o5 : s3.2.2 = s2.2.2 := by rw [← hs3]; rfl
  obtain ⟨s4, ⟨c1, c2, c3, c4, c5⟩, c6⟩ := m_cy_loop (L := L) (xs := xs) (d := d + 6) (s0 := s3) (v2 := .int (nI j')) h 12 0 s3 rfl (by omega) ⟨fun q m _ _ hm => absurd hm (Nat.not_lt_zero _), fun _ _ _ _ _ => rfl, fun m hm => absurd hm (Nat.not_lt_zero _), fun _ _ _ => rfl, rfl⟩
  -- arrays of the trees behind work and keep
  have t0 : ∀ q, 122 ≤ q → q ≤ 125 → s2.1 q = s.1 q := fun q g1 g2 => by rw [b3.1 q (by omega), a6.1 q (by omega)]
  have e138 : s4.1 138 1 = nI (scr t w M X).length := by rw [c4 138 (by omega) (by omega), o1 138 (by omega)]; exact b1.1
  refine ⟨s4, M, X, a1, a2, ⟨e138, fun k p hk i hi => ?_⟩, ⟨?_, fun n hn => ?_⟩, fun n hn => ?_, ?_, ⟨fun q hq => ?_, fun i t' hi ht' hm => ⟨?_, fun n hn => ?_⟩, fun q k n1 n2 n3 => ?_, ?_⟩, fun Q => ?_⟩
  · rw [c4 _ (by omega) (by omega), o1 _ (by omega)]; exact b1.2 k p hk i hi
  · rw [c4 122 (by omega) (by omega), o2, upd_s, t0 122 (by omega) (by omega)]; exact q1.1
  · obtain ⟨g1, g2, g3⟩ := q1.2 n hn
    rw [show 12 * 3 + n = 36 + n by omega, c1 123 n (by omega) (by omega) (by omega), c1 124 n (by omega) (by omega) (by omega), c1 125 n (by omega) (by omega) (by omega), o1 123 (by omega), o1 124 (by omega), o1 125 (by omega), t0 123 (by omega) (by omega), t0 124 (by omega) (by omega), t0 125 (by omega) (by omega)]
    exact ⟨g1, g2, g3⟩
  · rw [c3 n hn, o1 126 (by omega), b3.1 126 (by omega)]; exact (a5 n hn).1
  · rw [c5]; exact o3
  · rw [c4 q (by omega) (by omega), o1 q (by omega), b3.1 q (by omega), a6.1 q (by omega)]
  · rw [c4 122 (by omega) (by omega), o2, upd_n _ _ (by omega), t0 122 (by omega) (by omega)]; exact hm.1
  · obtain ⟨g1, g2, g3⟩ := hm.2 n hn
    rw [c2 123 _ (by omega) (by omega) (by omega), c2 124 _ (by omega) (by omega) (by omega), c2 125 _ (by omega) (by omega) (by omega), o1 123 (by omega), o1 124 (by omega), o1 125 (by omega), t0 123 (by omega) (by omega), t0 124 (by omega) (by omega), t0 125 (by omega) (by omega)]
    exact ⟨g1, g2, g3⟩
  · rw [c5, o4 q k n3, b3.2.2.2, a6.2.2.2.1 q k n1 n2]
  · rw [c5, o5, b3.2.2.2, a6.2.2.2.2]
  · have c6 : am_Rn L xs (d + 6) 93 64 [.ref 121, .int (nI j), .int (nI j'), .int 0] [] (mk s3) Q = _ := c6 Q
    rw [e138] at c6
    have b4 : ∀ Q : Option Value → am_S → Prop, am_Call L xs (d + 5) 108 [.ref 121, .int 1] (mk s1) Q = Q none (mk s2) := b4
    have j1 : am_in (nI j) 4 = true := in_of (by omega) (by decide)
    have j2 : (nI j).toNatClampNeg = j := nI_clamp (by omega)
    have j3 : am_in (nI j') 4 = true := in_of (by omega) (by decide)
    have j4 : (nI j').toNatClampNeg = j' := nI_clamp (by omega)
    have z1 : am_in 3 4 = true := by decide
    have z2 : (3 : Int32).toNatClampNeg = 3 := rfl
    have n1 : ¬ (1 : Int32) = 0 := by decide
    have e1 : ¬ nI t.1 = 0 := nI_ne0 (by omega) (by omega)
    have e2 : ¬ nI w.1 = 0 := nI_ne0 (by omega) (by omega)
    rw [← c6, ← hs3]
    simp only [e93, r93_0, r93_1, r93_4, r93_7, r93_8, r93_11, r93_14, r93_15, r93_18, r93_19, r93_20, r93_23, r93_24, r93_27, r93_28, r93_29, r93_34, r93_35, r93_36, r93_37, r93_40, r93_41, r93_42, r93_45, r93_46, r93_47, r93_50, r93_51, r93_54, r93_55, r93_56, r93_59, r93_60, r93_61, r93_62, r93_63, am_li0, am_liS, am_laR0, am_tL, am_tN, m_oc, m_isTree1 h, m_isTree1 h', g121_0, a122, w122', v121_26', q1.1, q2.1, j1, j2, j3, j4, z1, z2, n1, e1, e2, a7, b4, w2_1, not_false_eq_true, if_true, if_false, am_okI, am_okR, List.length_cons, List.length_nil, List.set_cons_succ, List.set_cons_zero, Nat.reduceAdd, Nat.reduceLT, Nat.zero_le, Nat.reduceLeDiff, and_true, true_and]
end
