/-! Children of a node of a tree; twigs that are alike -/
theorem fnd_congr {f f' g g' : Nat → Int32} {x y : Int32} : ∀ {m i : Nat}, (∀ j, i ≤ j → j < i + m → f j = f' j ∧ g j = g' j) → fnd f g x y m i = fnd f' g' x y m i
  | 0, _, _ => rfl
  | m + 1, i, h => by
    unfold fnd
    rw [(h i (Nat.le_refl _) (by omega)).1, (h i (Nat.le_refl _) (by omega)).2, fnd_congr (fun j h1 h2 => h j (by omega) (by omega))]
theorem allF_congr {P P' : Nat → Bool} : ∀ {m i : Nat}, (∀ k, i ≤ k → k < i + m → P k = P' k) → allF P m i = allF P' m i
  | 0, _, _ => rfl
  | m + 1, i, h => by
    rw [allF_s, allF_s, h i (Nat.le_refl _) (by omega), allF_congr (fun k h1 h2 => h k (by omega) (by omega))]
/-- how many children -/
def kc (t : Tr) (x : Nat) : Nat := cnt t.2.1 (nI x) t.1
/-- the k-th child -/
def kd (t : Tr) (x k : Nat) : Option Nat := fnd t.2.1 (fun m => nI (cnt t.2.1 (t.2.1 m) m)) (nI x) (nI k) t.1 0
theorem kc_lt {t : Tr} (hw : tW t) {x : Nat} (hx : x < t.1) : kc t x ≤ 11 := by
  have h12 := hw.1
  unfold kc
  obtain ⟨u, hu⟩ : ∃ u, t.1 = u + 1 := ⟨t.1 - 1, by omega⟩
  have h0 : ∀ n, n + 1 ≤ t.1 → cnt t.2.1 (nI x) (n + 1) ≤ n := by
    intro n
    induction n with
    | zero =>
      intro h
      rw [cnt_s]
      rcases hw.2 0 (by omega) with ⟨-, e⟩ | ⟨m, hm, -⟩
      · rw [if_neg (by rw [e]; exact fun q => nI_m1 x (by omega) q.symm)]
        exact Nat.le_refl _
      · omega
    | succ n ih =>
      intro h
      have := ih (by omega)
      rw [cnt_s]
      split <;> omega
  have := h0 u (by omega)
  rw [hu]
  omega
theorem kd_some {t : Tr} (hw : tW t) {x k m : Nat} (hx : x < 2 ^ 31) (hk : k < 2 ^ 31) (h : kd t x k = some m) : m < t.1 ∧ t.2.1 m = nI x ∧ cnt t.2.1 (nI x) m = k ∧ x < m := by
  obtain ⟨-, h2, h3, h4⟩ := fnd_some h
  have h12 := hw.1
  have h4 : nI (cnt t.2.1 (t.2.1 m) m) = nI k := h4
  have c := cnt_le t.2.1 (t.2.1 m) m
  rw [nI_eq (by omega) hk, h3] at h4
  refine ⟨by omega, h3, h4, ?_⟩
  rcases hw.2 m (by omega) with ⟨-, e⟩ | ⟨m', hm, e⟩
  · rw [e] at h3; exact absurd h3.symm (nI_m1 x hx)
  · rw [e, nI_eq (by omega) hx] at h3; omega
theorem kd_of {t : Tr} (hw : tW t) {x k m : Nat} (hm : m < t.1) (h1 : t.2.1 m = nI x) (h2 : cnt t.2.1 (nI x) m = k) (hx : x < 2 ^ 31) : kd t x k = some m := by
  have h12 := hw.1
  have c := cnt_le t.2.1 (nI x) m
  cases hf : kd t x k with
  | none =>
    refine absurd ⟨h1, ?_⟩ (fnd_none hf m (by omega) (by omega))
    show nI (cnt t.2.1 (t.2.1 m) m) = nI k
    rw [h1, h2]
  | some m' =>
    obtain ⟨g1, g2, g3, -⟩ := kd_some hw hx (by omega) hf
    congr 1
    by_cases h : m' < m
    · have := cnt_lt h g2; omega
    · by_cases h' : m < m'
      · have := cnt_lt h' h1; omega
      · omega
theorem kd_lt {t : Tr} (hw : tW t) {x k : Nat} (hx : x < 2 ^ 31) (hk : k < kc t x) : ∃ m, kd t x k = some m ∧ m < t.1 ∧ x < m := by
  obtain ⟨m, h1, h2, h3⟩ := cnt_ex hk
  have e := kd_of hw h1 h2 h3 hx
  have c := cnt_le t.2.1 (nI x) t.1
  have h12 := hw.1
  have hk' : k < cnt t.2.1 (nI x) t.1 := hk
  exact ⟨m, e, h1, (kd_some hw hx (by omega) e).2.2.2⟩
theorem kd_ge {t : Tr} (hw : tW t) {x k : Nat} (hx : x < 2 ^ 31) (hk : k < 2 ^ 31) (h : kc t x ≤ k) : kd t x k = none := by
  cases hf : kd t x k with
  | none => rfl
  | some m =>
    obtain ⟨g1, g2, g3, -⟩ := kd_some hw hx hk hf
    have := cnt_lt g1 g2
    have h : cnt t.2.1 (nI x) t.1 ≤ k := h
    omega
/-- two children that may not be there -/
def kB (S : Nat → Nat → Bool) : Option Nat → Option Nat → Bool
  | some a, some b => S a b
  | _, _ => false
theorem kB_ss (S : Nat → Nat → Bool) (a b : Nat) : kB S (some a) (some b) = S a b := rfl
/-- alike, for the first f levels -/
def alk (t w : Tr) : Nat → Nat → Nat → Bool
  | 0, _, _ => false
  | f + 1, x, y => decide (t.2.2.1 x = w.2.2.1 y) && decide (t.2.2.2 x = w.2.2.2 y) && decide (kc t x = kc w y) && allF (fun i => kB (alk t w f) (kd t x i) (kd w y i)) (kc t x) 0
theorem alk_s (t w : Tr) (f x y : Nat) : alk t w (f + 1) x y = (decide (t.2.2.1 x = w.2.2.1 y) && decide (t.2.2.2 x = w.2.2.2 y) && decide (kc t x = kc w y) && allF (fun i => kB (alk t w f) (kd t x i) (kd w y i)) (kc t x) 0) := rfl
theorem alk_fuel {t w : Tr} (hw : tW t) : ∀ (f g x y : Nat), x < t.1 → t.1 - x ≤ f → t.1 - x ≤ g → alk t w f x y = alk t w g x y
  | 0, g, x, y, hx, h1, h2 => by omega
  | f + 1, 0, x, y, hx, h1, h2 => by omega
  | f + 1, g + 1, x, y, hx, h1, h2 => by
    have h12 := hw.1
    rw [alk_s, alk_s]
    congr 1
    refine allF_congr (fun k k1 k2 => ?_)
    obtain ⟨a, e, a1, a2⟩ := kd_lt hw (x := x) (by omega) (show k < kc t x by omega)
    rw [e]
    cases kd w y k with
    | none => rfl
    | some b => exact alk_fuel hw f g a b a1 (by omega) (by omega)
/-- alike -/
def alN (t w : Tr) (x y : Nat) : Bool := alk t w 12 x y
theorem alN_eq {t w : Tr} (hw : tW t) {x y : Nat} (hx : x < t.1) : alN t w x y = (decide (t.2.2.1 x = w.2.2.1 y) && decide (t.2.2.2 x = w.2.2.2 y) && decide (kc t x = kc w y) && allF (fun i => kB (alN t w) (kd t x i) (kd w y i)) (kc t x) 0) := by
  have h12 := hw.1
  have e : alN t w = alk t w 12 := rfl
  rw [e, alk_fuel hw 12 13 x y hx (by omega) (by omega), alk_s]
/-- the class's recursion, on two trees -/
theorem alkG_tree {s : St} {p q : Nat} {t w : Tr} (hc : cT s p t) (hw : tW t) (hc' : cT s q w) (hw' : tW w) : ∀ (f x y : Nat), x < t.1 → y < w.1 → alkG (foS s p t.1) (foS s q w.1) f (nI x) (nI y) = alk t w f x y
  | 0, x, y, hx, hy => rfl
  | f + 1, x, y, hx, hy => by
    have h12 := hw.1
    have h12' := hw'.1
    have b1 : foB (foS s p t.1) (nI x) = true := by
      unfold foB foS
      exact decide_eq_true ⟨x, hx, rfl, by show ¬ s.1 (p + 1) x = -2; rw [(hc.2.1 x hx).1]; exact tW_ne2 hw hx⟩
    have b2 : foB (foS s q w.1) (nI y) = true := by
      unfold foB foS
      exact decide_eq_true ⟨y, hy, rfl, by show ¬ s.1 (q + 1) y = -2; rw [(hc'.2.1 y hy).1]; exact tW_ne2 hw' hy⟩
    have e1 : (nI x).toNatClampNeg = x := nI_clamp (by omega)
    have e2 : (nI y).toNatClampNeg = y := nI_clamp (by omega)
    have c1 : cnt (s.1 (p + 1)) (nI x) t.1 = kc t x := cnt_congr _ _ (fun j hj => (hc.2.1 j hj).1)
    have c2 : cnt (s.1 (q + 1)) (nI y) w.1 = kc w y := cnt_congr _ _ (fun j hj => (hc'.2.1 j hj).1)
    have d1 : ∀ i, fnd (s.1 (p + 1)) (s.1 (p + 2)) (nI x) (nI i) t.1 0 = kd t x i := fun i => fnd_congr (fun j _ hj => ⟨(hc.2.1 j (by omega)).1, (hc.2.1 j (by omega)).2.1⟩)
    have d2 : ∀ i, fnd (s.1 (q + 1)) (s.1 (q + 2)) (nI y) (nI i) w.1 0 = kd w y i := fun i => fnd_congr (fun j _ hj => ⟨(hc'.2.1 j (by omega)).1, (hc'.2.1 j (by omega)).2.1⟩)
    rw [alk_s, alkG, b1, b2]
    simp only [foS, e1, e2, c1, c2, d1, d2, (hc.2.1 x hx).2.2.1, (hc.2.1 x hx).2.2.2, (hc'.2.1 y hy).2.2.1, (hc'.2.1 y hy).2.2.2, Bool.true_and]
    by_cases hk : kc t x = kc w y
    · congr 1
      refine allF_congr (fun k k1 k2 => ?_)
      obtain ⟨a, ea, a1, -⟩ := kd_lt hw (x := x) (by omega) (show k < kc t x by omega)
      obtain ⟨b, eb, b1, -⟩ := kd_lt hw' (x := y) (by omega) (show k < kc w y by omega)
      rw [ea, eb]
      exact alkG_tree hc hw hc' hw' f a b a1 b1
    · rw [decide_eq_false hk, Bool.and_false, Bool.false_and, Bool.false_and]
