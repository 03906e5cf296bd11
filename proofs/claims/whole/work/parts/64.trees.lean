/-! Trees: how many nodes, their parents, types, labels -/
abbrev Tr : Type := Nat × (Nat → Int32) × (Nat → Int32) × (Nat → Int32)
/-- at most twelve nodes; the root's parent is -1, a node's parent has a lesser number -/
def tW (t : Tr) : Prop := t.1 ≤ 12 ∧ ∀ n, n < t.1 → (n = 0 ∧ t.2.1 n = -1) ∨ ∃ m, m < n ∧ t.2.1 n = nI m
/-- the forest at p holds the tree -/
def cT (s : St) (p : Nat) (t : Tr) : Prop := s.2.1 p 4 = nI t.1 ∧ (∀ n, n < t.1 → s.1 (p + 1) n = t.2.1 n ∧ s.1 (p + 2) n = nI (cnt t.2.1 (t.2.1 n) n) ∧ s.1 (p + 3) n = t.2.2.1 n ∧ s.1 (p + 4) n = t.2.2.2 n) ∧ ∀ n, t.1 ≤ n → n < 12 → s.1 (p + 1) n = -2
/-- the reference holds the tree as its tree j -/
def mT (s : St) (j : Nat) (t : Tr) : Prop := s.1 122 j = nI t.1 ∧ ∀ n, n < t.1 → s.1 123 (12 * j + n) = t.2.1 n ∧ s.1 124 (12 * j + n) = t.2.2.1 n ∧ s.1 125 (12 * j + n) = t.2.2.2 n
def tAdd (t : Tr) (a k l : Int32) : Tr := (t.1 + 1, upd t.2.1 t.1 a, upd t.2.2.1 t.1 k, upd t.2.2.2 t.1 l)
/-- a may be the next node's parent -/
def tFit (t : Tr) (a : Int32) : Prop := (t.1 = 0 ∧ a = -1) ∨ ∃ m, m < t.1 ∧ a = nI m
theorem upd_s (f : Nat → Int32) (k : Nat) (x : Int32) : upd f k x k = x := by simp [upd]
theorem upd_n (f : Nat → Int32) {k j : Nat} (x : Int32) (h : j ≠ k) : upd f k x j = f j := by simp [upd, h]
theorem nI_m1 (m : Nat) (h : m < 2 ^ 31) : ¬ nI m = -1 := by
  intro e
  have := congrArg Int32.toInt e
  rw [nI_toInt h] at this
  have e1 : (-1 : Int32).toInt = -1 := by decide
  rw [e1] at this
  omega
theorem nI_m2 (m : Nat) (h : m < 2 ^ 31) : ¬ nI m = -2 := by
  intro e
  have := congrArg Int32.toInt e
  rw [nI_toInt h] at this
  have e1 : (-2 : Int32).toInt = -2 := by decide
  rw [e1] at this
  omega
theorem tW_ne2 {t : Tr} (h : tW t) {n : Nat} (hn : n < t.1) : ¬ t.2.1 n = -2 := by
  rcases h.2 n hn with ⟨-, e⟩ | ⟨m, hm, e⟩
  · rw [e]; decide
  · rw [e]; exact nI_m2 m (by have := h.1; omega)
theorem tAdd_W {t : Tr} (h : tW t) (hu : t.1 < 12) {a : Int32} (ha : tFit t a) (k l : Int32) : tW (tAdd t a k l) := by
  refine ⟨by show t.1 + 1 ≤ 12; omega, fun n hn => ?_⟩
  have hn : n < t.1 + 1 := hn
  show (n = 0 ∧ upd t.2.1 t.1 a n = -1) ∨ ∃ m, m < n ∧ upd t.2.1 t.1 a n = nI m
  by_cases e : n = t.1
  · subst e
    rw [upd_s]
    rcases ha with ⟨h0, h1⟩ | h1
    · exact Or.inl ⟨h0, h1⟩
    · exact Or.inr h1
  · rw [upd_n _ _ e]
    exact h.2 n (by omega)
/-- only what is below n counts -/
theorem cnt_congr {f g : Nat → Int32} (x : Int32) : ∀ n, (∀ j, j < n → f j = g j) → cnt f x n = cnt g x n
  | 0, _ => rfl
  | n + 1, h => by
    rw [cnt_s, cnt_s, cnt_congr x n (fun j hj => h j (by omega)), h n (by omega)]
theorem cnt_mono (f : Nat → Int32) (x : Int32) {m n : Nat} (h : m ≤ n) : cnt f x m ≤ cnt f x n := by
  induction n with
  | zero => rw [Nat.le_zero.mp h]; exact Nat.le_refl _
  | succ n ih =>
    by_cases e : m = n + 1
    · rw [e]; exact Nat.le_refl _
    · have := ih (by omega)
      rw [cnt_s]; omega
theorem cnt_lt {f : Nat → Int32} {x : Int32} {m n : Nat} (h : m < n) (e : f m = x) : cnt f x m < cnt f x n := by
  have h1 : cnt f x (m + 1) = cnt f x m + 1 := by rw [cnt_s, if_pos e]
  have h2 := cnt_mono f x (show m + 1 ≤ n from h)
  omega
/-- the k-th that is x -/
theorem cnt_ex {f : Nat → Int32} {x : Int32} : ∀ {n k : Nat}, k < cnt f x n → ∃ m, m < n ∧ f m = x ∧ cnt f x m = k
  | 0, k, h => absurd h (Nat.not_lt_zero _)
  | n + 1, k, h => by
    by_cases e : k < cnt f x n
    · obtain ⟨m, h1, h2, h3⟩ := cnt_ex e
      exact ⟨m, by omega, h2, h3⟩
    · rw [cnt_s] at h
      by_cases e2 : f n = x
      · rw [if_pos e2] at h
        exact ⟨n, by omega, e2, by omega⟩
      · rw [if_neg e2] at h; omega
theorem fnd_some {f g : Nat → Int32} {x y : Int32} : ∀ {m i k : Nat}, fnd f g x y m i = some k → i ≤ k ∧ k < i + m ∧ f k = x ∧ g k = y
  | 0, i, k, h => by cases h
  | m + 1, i, k, h => by
    unfold fnd at h
    by_cases e : f i = x ∧ g i = y
    · rw [if_pos e] at h
      cases h
      exact ⟨Nat.le_refl _, by omega, e.1, e.2⟩
    · rw [if_neg e] at h
      obtain ⟨h1, h2, h3⟩ := fnd_some h
      exact ⟨by omega, by omega, h3⟩
theorem fnd_none {f g : Nat → Int32} {x y : Int32} : ∀ {m i : Nat}, fnd f g x y m i = none → ∀ k, i ≤ k → k < i + m → ¬ (f k = x ∧ g k = y)
  | 0, i, h, k, h1, h2 => by omega
  | m + 1, i, h, k, h1, h2 => by
    unfold fnd at h
    by_cases e : f i = x ∧ g i = y
    · rw [if_pos e] at h; cases h
    · rw [if_neg e] at h
      by_cases e2 : k = i
      · rw [e2]; exact e
      · exact fnd_none h k (by omega) (by omega)
/-- childAt on a tree: the k-th child -/
theorem fnd_kid {s : St} {p : Nat} {t : Tr} (hc : cT s p t) (hw : tW t) {a : Int32} {k : Nat} (hk : k < cnt t.2.1 a t.1) : ∃ m, m < t.1 ∧ t.2.1 m = a ∧ cnt t.2.1 a m = k ∧ fnd (s.1 (p + 1)) (s.1 (p + 2)) a (nI k) t.1 0 = some m := by
  obtain ⟨m, h1, h2, h3⟩ := cnt_ex hk
  refine ⟨m, h1, h2, h3, ?_⟩
  have h12 := hw.1
  cases hf : fnd (s.1 (p + 1)) (s.1 (p + 2)) a (nI k) t.1 0 with
  | none =>
    obtain ⟨q1, q2, -⟩ := hc.2.1 m h1
    exact absurd ⟨q1.trans h2, by rw [q2, h2, h3]⟩ (fnd_none hf m (by omega) (by omega))
  | some m' =>
    obtain ⟨-, g2, g3, g4⟩ := fnd_some hf
    obtain ⟨q1, q2, -⟩ := hc.2.1 m' (by omega)
    have e1 : t.2.1 m' = a := q1.symm.trans g3
    have c1 := cnt_le t.2.1 a m'
    have c2 := cnt_le t.2.1 a t.1
    have e2 : cnt t.2.1 a m' = k := by
      rw [q2, e1] at g4
      exact (nI_eq (by omega) (by omega)).mp g4
    have : m' = m := by
      by_cases h : m' < m
      · have := cnt_lt h e1; omega
      · by_cases h' : m < m'
        · have := cnt_lt h' h2; omega
        · omega
    rw [this]
theorem fnd_nokid {s : St} {p : Nat} {t : Tr} (hc : cT s p t) (hw : tW t) {a : Int32} : fnd (s.1 (p + 1)) (s.1 (p + 2)) a (-1) t.1 0 = none := by
  cases hf : fnd (s.1 (p + 1)) (s.1 (p + 2)) a (-1) t.1 0 with
  | none => rfl
  | some m' =>
    obtain ⟨-, g2, g3, g4⟩ := fnd_some hf
    obtain ⟨q1, q2, -⟩ := hc.2.1 m' (by omega)
    rw [q2] at g4
    have c1 := cnt_le t.2.1 (t.2.1 m') m'
    exact absurd g4 (nI_m1 _ (by have := hw.1; omega))
/-- nothing but the forest at p has changed -/
def frF (p : Nat) (s s' : St) : Prop := (∀ q, ¬ (p < q ∧ q < p + 5) → s'.1 q = s.1 q) ∧ (∀ q k, ¬ (q = p ∧ k = 4) → s'.2.1 q k = s.2.1 q k) ∧ s'.2.2 = s.2.2
section
variable {L : Nat} {xs : Nat → Int32} {d : Nat} {s : St} {Q : Option Value → am_S → Prop}
theorem c_addOk {j : Nat} {t : Tr} (h : j < 3) (hc : cT s (2 + 5 * j) t) (hw : tW t) (hu : t.1 < 12) {a k l : Int32} (ha : tFit t a) (hk : ¬ k < 0) (hk8 : k < 8) :
    ∃ s' : St, (∀ Q : Option Value → am_S → Prop, am_Call L xs (d + 2) 7 [.ref 0, .int (nI j), .int a, .int k, .int l] (mk s) Q = Q (some (.int (nI t.1))) (mk s')) ∧ cT s' (2 + 5 * j) (tAdd t a k l) ∧ frF (2 + 5 * j) s s' := by
  have hF := isF_t h
  have ht : ∀ f : Nat → Prop, am_ar2 (mk s) 1 (nI j) f = f (2 + 5 * j) := fun f => t_tree h
  generalize 2 + 5 * j = p at hF hc ht ⊢
  obtain ⟨u, pr, ty, lb⟩ := t
  obtain ⟨c1, c2, c3⟩ := hc
  dsimp only at c1 c2 c3 hu ⊢
  have hw' := hw
  have hc' : cT s p (u, pr, ty, lb) := ⟨c1, c2, c3⟩
  -- the number of children, the last of them
  have hcnt : cnt (s.1 (p + 1)) a u = cnt pr a u := cnt_congr a u (fun i hi => (c2 i hi).1)
  generalize hcc : cnt pr a u = c at hcnt
  have hcu : c ≤ u := by rw [← hcc]; exact cnt_le _ _ _
  have hlast : ∃ la : Int32, oI (fnd (s.1 (p + 1)) (s.1 (p + 2)) a (nI c - 1) u 0) = la ∧ plB (s.1 (p + 1)) (s.1 (p + 2)) (u + 1) la = nI c := by
    match c, hcc with
    | 0, hcc =>
      have e0 : nI 0 - 1 = -1 := by decide
      rw [e0, fnd_nokid hc' hw]
      refine ⟨-1, rfl, ?_⟩
      unfold plB
      rw [if_neg]
      · rfl
      · rintro ⟨i, q1, q2, -⟩
        exact nI_m1 i (by omega) q2.symm
    | c' + 1, hcc =>
      rw [nI_pred]
      obtain ⟨m, m1, m2, m3, m4⟩ := fnd_kid hc' hw (a := a) (k := c') (by show c' < cnt pr a u; omega)
      have m4 : fnd (s.1 (p + 1)) (s.1 (p + 2)) a (nI c') u 0 = some m := m4
      rw [m4]
      refine ⟨nI m, rfl, ?_⟩
      have m1 : m < u := m1
      have m2 : pr m = a := m2
      have m3 : cnt pr a m = c' := m3
      unfold plB
      rw [if_pos ⟨m, by omega, rfl, by rw [(c2 m m1).1]; exact tW_ne2 hw' m1⟩, nI_clamp (by omega), (c2 m m1).2.1, m2, m3, nI_1]
  obtain ⟨la, hl1, hl2⟩ := hlast
  have hmx : max u (u + 1) = u + 1 := by omega
  -- the store behind make
  have mk1 : ∀ Q : Option Value → am_S → Prop, am_Call L xs (d + 1) 12 [.ref p, .int (nI u), .int k, .int l] (mk s) Q = Q none (mk (va_up (va_up s.1 (p + 3) (upd (s.1 (p + 3)) u k)) (p + 4) (upd (s.1 (p + 4)) u l), am_u2 s.2.1 p 4 (nI (u + 1)), s.2.2)) := by
    intro Q
    rw [c_make hF (by decide) c1 hu (by omega), hmx]
  generalize hs1 : ((va_up (va_up s.1 (p + 3) (upd (s.1 (p + 3)) u k)) (p + 4) (upd (s.1 (p + 4)) u l), am_u2 s.2.1 p 4 (nI (u + 1)), s.2.2) : St) = s1 at mk1
  have a1 : s1.1 (p + 1) = s.1 (p + 1) := by rw [← hs1]; dsimp only; rw [up_ne _ _ (by omega), up_ne _ _ (by omega)]
  have a2 : s1.1 (p + 2) = s.1 (p + 2) := by rw [← hs1]; dsimp only; rw [up_ne _ _ (by omega), up_ne _ _ (by omega)]
  have a3 : s1.1 (p + 3) = upd (s.1 (p + 3)) u k := by rw [← hs1]; dsimp only; rw [up_ne _ _ (by omega), up_same]
  have a4 : s1.1 (p + 4) = upd (s.1 (p + 4)) u l := by rw [← hs1]; dsimp only; rw [up_same]
  have a5 : s1.2.1 p 4 = nI (u + 1) := by rw [← hs1]; exact u2_same _ _ _ _
  have hsh : shU (s.1 (p + 1)) a (nI c) (u + 1) (s.1 (p + 2)) = s.1 (p + 2) := by
    funext i
    unfold shU
    rw [if_neg]
    rintro ⟨q1, q2, q3⟩
    by_cases e : i = u
    · rw [e, c3 u (Nat.le_refl _) hu] at q2
      rcases ha with ⟨-, e2⟩ | ⟨m, hm, e2⟩
      · rw [e2] at q2; exact absurd q2 (by decide)
      · rw [e2] at q2; exact nI_m2 m (by have hm : m < u := hm; omega) q2.symm
    · obtain ⟨b1, b2, -⟩ := c2 i (by omega)
      have e1 : pr i = a := b1.symm.trans q2
      rw [b2, e1] at q3
      have := cnt_lt (show i < u by omega) e1
      rw [hcc] at this
      exact nI_ge this (by omega) q3
  have mk2 : ∀ Q : Option Value → am_S → Prop, am_Call L xs (d + 1) 13 [.ref p, .int (nI u), .int a, .int la] (mk s1) Q = Q none (mk (va_up (va_up s1.1 (p + 1) (upd (s.1 (p + 1)) u a)) (p + 2) (upd (s.1 (p + 2)) u (nI c)), s1.2)) := by
    intro Q
    rw [c_put hF (by decide) a5 (by omega) (Nat.lt_succ_self u), a1, a2, hl2, hsh]
  refine ⟨(va_up (va_up s1.1 (p + 1) (upd (s.1 (p + 1)) u a)) (p + 2) (upd (s.1 (p + 2)) u (nI c)), s1.2), fun Q => ?_, ⟨a5, fun n hn => ?_, fun n h1 h2 => ?_⟩, fun q hq => ?_, fun q i hq => ?_, ?_⟩
  · have h1 : ¬ (1 : Int32) = 0 := by decide
    have h12 : nI u < 12 := nI_lt (b := 12) hu (by decide)
    by_cases hu0 : u = 0
    · have e0 : nI u = 0 := by rw [hu0]; rfl
      have ha1 : a = -1 := by
        rcases ha with ⟨-, e⟩ | ⟨m, hm, -⟩
        · exact e
        · have hm : m < u := hm; omega
      have c1' : s.2.1 p 4 = 0 := by rw [c1, e0]
      rw [e0] at mk1 mk2 h12
      rw [e0]
      subst ha1
      have hm1 : ((-1 : Int32) = -1) = True := eq_self _
      simp only [e7, r7_0, r7_1, r7_4, r7_7, r7_8, r7_11, r7_12, r7_14, r7_17, r7_18, r7_19, r7_20, r7_23, r7_24, r7_25, r7_27, r7_29, r7_32, r7_35, r7_36, r7_37, r7_40, r7_41, r7_44, r7_45, r7_48, r7_50, r7_51, r7_54, r7_56, r7_58, r7_61, r7_63, r7_66, r7_68, r7_71, r7_72, r7_73, r7_75, r7_78, r7_80, r7_82, r7_83, r7_85, r7_86, r7_89, r7_90, r7_91, r7_94, r7_96, r7_98, r7_100, r7_101, r7_103, r7_106, r7_108, r7_110, r7_111, r7_113, r7_116, r7_118, am_li0, am_liS, am_laR0, am_laS, c_isTree1 h, am_tL, am_tN, h1, hk, hk8, hm1, not_true, not_false_eq_true, g0_0, ht, f_used hF, f_oc hF, c1', h12, c_childCount hF (by decide) c1 (by omega), c_childAt hF (by decide) c1 (by omega), hcnt, hl1, mk1, mk2, if_true, if_false, am_okI, am_okR, List.length_cons, List.length_nil, List.set_cons_succ, List.set_cons_zero, Nat.reduceAdd, Nat.reduceLT, Nat.reduceLeDiff, Nat.zero_le, and_true, true_and]
    · have hne : ¬ nI u = 0 := nI_ne0 (by omega) (by omega)
      have hex : ∃ i, i < u ∧ a = nI i ∧ ¬ s.1 (p + 1) i = -2 := by
        rcases ha with ⟨e, -⟩ | ⟨m, hm, e⟩
        · exact absurd e hu0
        · have hm : m < u := hm
          exact ⟨m, hm, e, by rw [(c2 m hm).1]; exact tW_ne2 hw' hm⟩
      simp only [e7, r7_0, r7_1, r7_4, r7_7, r7_8, r7_11, r7_12, r7_14, r7_17, r7_18, r7_19, r7_20, r7_23, r7_24, r7_25, r7_27, r7_29, r7_32, r7_35, r7_36, r7_37, r7_40, r7_41, r7_44, r7_45, r7_48, r7_50, r7_51, r7_54, r7_56, r7_58, r7_61, r7_63, r7_66, r7_68, r7_71, r7_72, r7_73, r7_75, r7_78, r7_80, r7_82, r7_83, r7_85, r7_86, r7_89, r7_90, r7_91, r7_94, r7_96, r7_98, r7_100, r7_101, r7_103, r7_106, r7_108, r7_110, r7_111, r7_113, r7_116, r7_118, am_li0, am_liS, am_laR0, am_laS, c_isTree1 h, am_tL, am_tN, h1, hne, hk, hk8, not_true, not_false_eq_true, g0_0, ht, f_used hF, f_oc hF, c1, h12, c_has hF (by decide) c1 (by omega), hex, c_childCount hF (by decide) c1 (by omega), c_childAt hF (by decide) c1 (by omega), hcnt, hl1, mk1, mk2, if_true, if_false, am_okI, am_okR, List.length_cons, List.length_nil, List.set_cons_succ, List.set_cons_zero, Nat.reduceAdd, Nat.reduceLT, Nat.reduceLeDiff, Nat.zero_le, and_true, true_and]
  · have hn : n < u + 1 := hn
    show va_up (va_up s1.1 (p + 1) _) (p + 2) _ (p + 1) n = upd pr u a n ∧ va_up (va_up s1.1 (p + 1) _) (p + 2) _ (p + 2) n = nI (cnt (upd pr u a) (upd pr u a n) n) ∧ va_up (va_up s1.1 (p + 1) _) (p + 2) _ (p + 3) n = upd ty u k n ∧ va_up (va_up s1.1 (p + 1) _) (p + 2) _ (p + 4) n = upd lb u l n
    rw [up_ne _ _ (by omega), up_same, up_same, up_ne _ _ (by omega), up_ne _ _ (by omega), up_ne _ _ (by omega), up_ne _ _ (by omega), a3, a4]
    have hcg : cnt (upd pr u a) (upd pr u a n) n = cnt pr (upd pr u a n) n := cnt_congr _ n (fun i hi => upd_n _ _ (by omega))
    rw [hcg]
    by_cases e : n = u
    · subst e
      rw [upd_s, upd_s, upd_s, upd_s, upd_s, upd_s, upd_s, hcc]
      exact ⟨rfl, rfl, rfl, rfl⟩
    · rw [upd_n _ _ e, upd_n _ _ e, upd_n _ _ e, upd_n _ _ e, upd_n _ _ e, upd_n _ _ e, upd_n _ _ e]
      exact c2 n (by omega)
  · have h1 : u + 1 ≤ n := h1
    show va_up (va_up s1.1 (p + 1) _) (p + 2) _ (p + 1) n = -2
    rw [up_ne _ _ (by omega), up_same, upd_n _ _ (by omega)]
    exact c3 n (by omega) h2
  · show va_up (va_up s1.1 (p + 1) _) (p + 2) _ q = s.1 q
    rw [up_ne _ _ (by omega), up_ne _ _ (by omega), ← hs1]
    dsimp only
    rw [up_ne _ _ (by omega), up_ne _ _ (by omega)]
  · show s1.2.1 q i = s.2.1 q i
    rw [← hs1]
    exact u2_ne _ _ hq
  · show s1.2.2 = s.2.2
    rw [← hs1]
end
