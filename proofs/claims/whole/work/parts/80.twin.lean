/-! Twins: the nodes of two alike twigs, one by one -/
/-- the twin of n, when x and y are twins -/
def cr (t w : Tr) (x y n : Nat) : Option Nat := if n = x then some y else if h : n ≤ x then none else (cr t w x y (pm t n)).bind (fun q => kd w q (cnt t.2.1 (nI (pm t n)) n))
termination_by n
decreasing_by exact pm_lt t (by omega)
theorem cr_x (t w : Tr) (x y : Nat) : cr t w x y x = some y := by rw [cr, if_pos rfl]
theorem cr_lt (t w : Tr) {x y n : Nat} (h : n < x) : cr t w x y n = none := by rw [cr, if_neg (by omega), dif_pos (by omega)]
theorem cr_gt (t w : Tr) {x y n : Nat} (h : x < n) : cr t w x y n = (cr t w x y (pm t n)).bind (fun q => kd w q (cnt t.2.1 (nI (pm t n)) n)) := by rw [cr, if_neg (by omega), dif_neg (by omega)]
theorem cnt12 {t : Tr} (hw : tW t) {n : Nat} (hn : n < t.1) (z : Int32) : cnt t.2.1 z n < 2 ^ 31 := by
  have := cnt_le t.2.1 z n
  have := hw.1
  omega
/-- a twin has a twin above it -/
theorem cr_up {t w : Tr} (hw : tW t) (hw' : tW w) {x y n v : Nat} (hn : n < t.1) (hy : y < w.1) (h : cr t w x y n = some v) (hx : n ≠ x) : x < n ∧ ∃ q, cr t w x y (pm t n) = some q ∧ kd w q (cnt t.2.1 (nI (pm t n)) n) = some v := by
  by_cases e : n < x
  · rw [cr_lt t w e] at h; cases h
  · rw [cr_gt t w (by omega)] at h
    obtain ⟨q, h1, h2⟩ := Option.bind_eq_some_iff.mp h
    exact ⟨by omega, q, h1, h2⟩
theorem cr_W {t w : Tr} (hw : tW t) (hw' : tW w) {x y : Nat} (hy : y < w.1) : ∀ n v, n < t.1 → cr t w x y n = some v → x ≤ n ∧ y ≤ v ∧ v < w.1 := by
  intro n
  induction n using Nat.strongRecOn with
  | ind n ih =>
    intro v hn h
    by_cases e : n = x
    · rw [e, cr_x] at h
      cases h
      exact ⟨by omega, Nat.le_refl _, hy⟩
    · obtain ⟨h1, q, h2, h3⟩ := cr_up hw hw' hn hy h e
      have hp := pm_lt t (show 0 < n by omega)
      have h12' := hw'.1
      obtain ⟨a1, a2, a3⟩ := ih _ hp q (by omega) h2
      obtain ⟨b1, b2, b3, b4⟩ := kd_some hw' (by omega) (cnt12 hw hn _) h3
      exact ⟨by omega, by omega, b1⟩
theorem cr_inj {t w : Tr} (hw : tW t) (hw' : tW w) {x y : Nat} (hy : y < w.1) : ∀ n n' v, n < t.1 → n' < t.1 → cr t w x y n = some v → cr t w x y n' = some v → n = n' := by
  have h12 := hw.1
  have h12' := hw'.1
  intro n
  induction n using Nat.strongRecOn with
  | ind n ih =>
    intro n' v hn hn' h h'
    by_cases e : n = x
    · by_cases e' : n' = x
      · rw [e, e']
      · rw [e, cr_x] at h
        cases h
        obtain ⟨h1, q, h2, h3⟩ := cr_up hw hw' hn' hy h' e'
        have hp := pm_lt t (show 0 < n' by omega)
        obtain ⟨a1, a2, a3⟩ := cr_W hw hw' hy _ q (by omega) h2
        obtain ⟨b1, b2, b3, b4⟩ := kd_some hw' (by omega) (cnt12 hw hn' _) h3
        omega
    · obtain ⟨h1, q, h2, h3⟩ := cr_up hw hw' hn hy h e
      have hp := pm_lt t (show 0 < n by omega)
      obtain ⟨a1, a2, a3⟩ := cr_W hw hw' hy _ q (by omega) h2
      obtain ⟨b1, b2, b3, b4⟩ := kd_some hw' (by omega) (cnt12 hw hn _) h3
      by_cases e' : n' = x
      · rw [e', cr_x] at h'
        cases h'
        omega
      · obtain ⟨h1', q', h2', h3'⟩ := cr_up hw hw' hn' hy h' e'
        have hp' := pm_lt t (show 0 < n' by omega)
        obtain ⟨a1', a2', a3'⟩ := cr_W hw hw' hy _ q' (by omega) h2'
        obtain ⟨b1', b2', b3', b4'⟩ := kd_some hw' (by omega) (cnt12 hw hn' _) h3'
        have eq : q = q' := (nI_eq (by omega) (by omega)).mp (b2.symm.trans b2')
        subst eq
        have ep := ih _ hp (pm t n') q (by omega) (by omega) h2 h2'
        have ek : cnt t.2.1 (nI (pm t n)) n = cnt t.2.1 (nI (pm t n')) n' := b3.symm.trans b3'
        rw [← ep] at ek
        have k1 := kd_of hw hn (pm_eq hw (by omega) hn) rfl (show pm t n < 2 ^ 31 by omega)
        have k2 := kd_of hw hn' (ep ▸ pm_eq hw (by omega) hn') ek.symm (show pm t n < 2 ^ 31 by omega)
        rw [k1] at k2
        exact Option.some.inj k2
/-- in alike twigs each node has a twin, alike to it -/
theorem cr_al {t w : Tr} (hw : tW t) (hw' : tW w) {x y : Nat} (hx : x < t.1) (hy : y < w.1) (ha : alN t w x y = true) : ∀ n, n < t.1 → (n = x ∨ bl t x n = true) → ∃ v, cr t w x y n = some v ∧ v < w.1 ∧ alN t w n v = true := by
  have h12 := hw.1
  have h12' := hw'.1
  intro n
  induction n using Nat.strongRecOn with
  | ind n ih =>
    intro hn hb
    by_cases e : n = x
    · rw [e]; exact ⟨y, cr_x t w x y, hy, ha⟩
    · have hb : bl t x n = true := hb.resolve_left e
      have hlt := bl_lt hb
      have hp := pm_lt t (show 0 < n by omega)
      obtain ⟨q, q1, q2, q3⟩ := ih _ hp (by omega) ((bl_iff (by omega)).mp hb)
      have hk : cnt t.2.1 (nI (pm t n)) n < kc t (pm t n) := cnt_lt hn (pm_eq hw (by omega) hn)
      have k1 := kd_of hw hn (pm_eq hw (by omega) hn) rfl (show pm t n < 2 ^ 31 by omega)
      rw [alN_eq hw (by omega), Bool.and_eq_true, Bool.and_eq_true, decide_eq_true_iff] at q3
      have hall := allF_iff.mp q3.2 _ (Nat.zero_le _) (show cnt t.2.1 (nI (pm t n)) n < 0 + kc t (pm t n) by omega)
      obtain ⟨v, v1, v2, v3⟩ := kd_lt hw' (x := q) (k := cnt t.2.1 (nI (pm t n)) n) (by omega) (by rw [← q3.1.2]; exact hk)
      rw [k1, v1, kB_ss] at hall
      exact ⟨v, by rw [cr_gt t w hlt, q1]; exact v1, v2, hall⟩
theorem cr_bl {t w : Tr} (hw : tW t) (hw' : tW w) {x y : Nat} (hy : y < w.1) : ∀ n v, n < t.1 → cr t w x y n = some v → n = x ∨ bl t x n = true := by
  intro n
  induction n using Nat.strongRecOn with
  | ind n ih =>
    intro v hn h
    by_cases e : n = x
    · exact Or.inl e
    · obtain ⟨h1, q, h2, h3⟩ := cr_up hw hw' hn hy h e
      have hp := pm_lt t (show 0 < n by omega)
      refine Or.inr ((bl_iff (by omega)).mpr ?_)
      rcases ih _ hp q (by omega) h2 with e2 | e2
      · exact Or.inl e2
      · exact Or.inr e2
/-- twins, by the children -/
theorem cr_kid {t w : Tr} (hw : tW t) (hw' : tW w) {x y : Nat} (hx : x < t.1) (hy : y < w.1) : ∀ n v, n < t.1 → (cr t w x y n = some v ↔ (n = x ∧ v = y) ∨ ∃ k a b, kd t x k = some a ∧ kd w y k = some b ∧ k < kc t x ∧ cr t w a b n = some v) := by
  have h12 := hw.1
  have h12' := hw'.1
  intro n
  induction n using Nat.strongRecOn with
  | ind n ih =>
    intro v hn
    constructor
    · intro h
      by_cases e : n = x
      · rw [e, cr_x] at h
        cases h
        exact Or.inl ⟨e, rfl⟩
      · obtain ⟨h1, q, h2, h3⟩ := cr_up hw hw' hn hy h e
        have hp := pm_lt t (show 0 < n by omega)
        have k1 := kd_of hw hn (pm_eq hw (by omega) hn) rfl (show pm t n < 2 ^ 31 by omega)
        refine Or.inr ?_
        rcases (ih _ hp q (by omega)).mp h2 with ⟨e1, e2⟩ | ⟨k, a, b, c1, c2, c3, c4⟩
        · have hk : cnt t.2.1 (nI (pm t n)) n < kc t (pm t n) := cnt_lt hn (pm_eq hw (by omega) hn)
          rw [e2] at h3
          refine ⟨_, n, v, ?_, h3, ?_, cr_x t w n v⟩
          · rw [← e1]; exact k1
          · rw [← e1]; exact hk
        · have hkk := kc_lt hw hx
          obtain ⟨a1, -, -, a4⟩ := kd_some hw (by omega) (by omega) c1
          obtain ⟨b1, -, -, b4⟩ := kd_some hw' (by omega) (by omega) c2
          have hle := (cr_W hw hw' b1 _ q (by omega) c4).1
          refine ⟨k, a, b, c1, c2, c3, ?_⟩
          rw [cr_gt t w (by omega), c4]
          exact h3
    · rintro (⟨e1, e2⟩ | ⟨k, a, b, c1, c2, c3, c4⟩)
      · rw [e1, e2]; exact cr_x t w x y
      · have hkk := kc_lt hw hx
        obtain ⟨a1, a2, a3, a4⟩ := kd_some hw (by omega) (by omega) c1
        obtain ⟨b1, b2, b3, b4⟩ := kd_some hw' (by omega) (by omega) c2
        have hpa : pm t a = x := (nI_eq (by have := pm_lt t (show 0 < a by omega); omega) (by omega)).mp ((pm_eq hw (by omega) a1).symm.trans a2)
        by_cases e : n = a
        · rw [e, cr_x] at c4
          cases c4
          rw [e, cr_gt t w (by omega), hpa, cr_x]
          show kd w y (cnt t.2.1 (nI x) a) = some v
          rw [a3]; exact c2
        · obtain ⟨h1, q, h2, h3⟩ := cr_up hw hw' hn b1 c4 e
          have hp := pm_lt t (show 0 < n by omega)
          rw [cr_gt t w (by omega), (ih _ hp q (by omega)).mpr (Or.inr ⟨k, a, b, c1, c2, c3, h2⟩)]
          exact h3
/-- M' is M, but for the pairs S -/
def jS (S : Nat → Nat → Prop) (M M' : Pr) : Prop := (∀ n v, S n v → M'.1 n = some v ∧ M'.2 v = some n) ∧ (∀ n, (∀ v, ¬ S n v) → M'.1 n = M.1 n) ∧ ∀ v, (∀ n, ¬ S n v) → M'.2 v = M.2 v
theorem jS_0 (M : Pr) : jS (fun _ _ => False) M M := ⟨fun _ _ h => h.elim, fun _ _ => rfl, fun _ _ => rfl⟩
theorem jS_iff {S S' : Nat → Nat → Prop} {M M' : Pr} (h : jS S M M') (e : ∀ n v, S n v ↔ S' n v) : jS S' M M' := by
  have : S = S' := by funext n v; exact propext (e n v)
  rw [← this]; exact h
theorem jS_un {S : Nat → Nat → Prop} {M M1 M2 : Pr} (h1 : jS S M M1) (h2 : jS S M M2) : M1 = M2 := by
  refine Prod.ext (funext fun n => ?_) (funext fun v => ?_)
  · by_cases e : ∃ v, S n v
    · obtain ⟨v, hv⟩ := e
      rw [(h1.1 n v hv).1, (h2.1 n v hv).1]
    · have e : ∀ v, ¬ S n v := fun v hv => e ⟨v, hv⟩
      rw [h1.2.1 n e, h2.2.1 n e]
  · by_cases e : ∃ n, S n v
    · obtain ⟨n, hn⟩ := e
      rw [(h1.1 n v hn).2, (h2.1 n v hn).2]
    · have e : ∀ n, ¬ S n v := fun n hv => e ⟨n, hv⟩
      rw [h1.2.2 v e, h2.2.2 v e]
theorem jS_J {S : Nat → Nat → Prop} {M M' : Pr} {x y : Nat} (h : jS S M M') (h1 : ∀ v, S x v → v = y) (h2 : ∀ n, S n y → n = x) : jS (fun n v => S n v ∨ (n = x ∧ v = y)) M (pJ M' x y) := by
  refine ⟨fun n v hs => ?_, fun n hs => ?_, fun v hs => ?_⟩
  · unfold pJ
    dsimp only
    rcases hs with hs | ⟨rfl, rfl⟩
    · refine ⟨?_, ?_⟩
      · by_cases e : n = x
        · rw [if_pos e, h1 v (e ▸ hs)]
        · rw [if_neg e]; exact (h.1 n v hs).1
      · by_cases e : v = y
        · rw [if_pos e, h2 n (e ▸ hs)]
        · rw [if_neg e]; exact (h.1 n v hs).2
    · rw [if_pos rfl, if_pos rfl]; exact ⟨rfl, rfl⟩
  · unfold pJ
    dsimp only
    rw [if_neg (fun e => hs y (Or.inr ⟨e, rfl⟩))]
    exact h.2.1 n (fun v hv => hs v (Or.inl hv))
  · unfold pJ
    dsimp only
    rw [if_neg (fun e => hs x (Or.inr ⟨rfl, e⟩))]
    exact h.2.2 v (fun n hv => hs n (Or.inl hv))
theorem jS_cat {S S' : Nat → Nat → Prop} {M M' M'' : Pr} (h : jS S M M') (h' : jS S' M' M'') (h1 : ∀ n v v', S n v → S' n v' → v = v') (h2 : ∀ n n' v, S n v → S' n' v → n = n') : jS (fun n v => S n v ∨ S' n v) M M'' := by
  refine ⟨fun n v hs => ?_, fun n hs => ?_, fun v hs => ?_⟩
  · rcases hs with hs | hs
    · refine ⟨?_, ?_⟩
      · by_cases e : ∃ v', S' n v'
        · obtain ⟨v', hv⟩ := e
          rw [h1 n v v' hs hv]; exact (h'.1 n v' hv).1
        · rw [h'.2.1 n (fun v' hv => e ⟨v', hv⟩)]; exact (h.1 n v hs).1
      · by_cases e : ∃ n', S' n' v
        · obtain ⟨n', hv⟩ := e
          rw [h2 n n' v hs hv]; exact (h'.1 n' v hv).2
        · rw [h'.2.2 v (fun n' hv => e ⟨n', hv⟩)]; exact (h.1 n v hs).2
    · exact h'.1 n v hs
  · rw [h'.2.1 n (fun v hv => hs v (Or.inr hv))]
    exact h.2.1 n (fun v hv => hs v (Or.inl hv))
  · rw [h'.2.2 v (fun n hv => hs n (Or.inr hv))]
    exact h.2.2 v (fun n hv => hs n (Or.inl hv))
