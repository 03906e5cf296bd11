/-! merge: what the scripts are like -/
/-- a number below m, or none -/
def rfO (m : Nat) (z : Int32) : Prop := z = -1 ∨ ∃ k, k < m ∧ z = nI k
theorem rfO_m {m m' : Nat} {z : Int32} (h : m ≤ m') (hz : rfO m z) : rfO m' z := by
  rcases hz with e | ⟨k, k1, k2⟩
  · exact Or.inl e
  · exact Or.inr ⟨k, by omega, k2⟩
/-- INSERTs are numbered one after another; a step speaks of nodes that are known; no node is deleted twice -/
def nuS (n : Nat) : Nat → List Sp → Prop
  | _, [] => True
  | i, q :: l => rfO (n + i) q.2.2.1 ∧ rfO (n + i) q.2.2.2.1 ∧ ((q.1 = 0 ∧ q.2.1 = nI (n + i) ∧ nuS n (i + 1) l) ∨ ((q.1 = 1 ∨ q.1 = 2) ∧ (∃ x, x < n ∧ q.2.1 = nI x) ∧ nuS n i l) ∨ (q.1 = 3 ∧ (∃ x, x < n ∧ q.2.1 = nI x ∧ ∀ r, r ∈ l → r.1 = 3 → r.2.1 ≠ nI x) ∧ nuS n i l))
theorem nuS_c (n i : Nat) (q : Sp) (l : List Sp) : nuS n i (q :: l) = (rfO (n + i) q.2.2.1 ∧ rfO (n + i) q.2.2.2.1 ∧ ((q.1 = 0 ∧ q.2.1 = nI (n + i) ∧ nuS n (i + 1) l) ∨ ((q.1 = 1 ∨ q.1 = 2) ∧ (∃ x, x < n ∧ q.2.1 = nI x) ∧ nuS n i l) ∨ (q.1 = 3 ∧ (∃ x, x < n ∧ q.2.1 = nI x ∧ ∀ r, r ∈ l → r.1 = 3 → r.2.1 ≠ nI x) ∧ nuS n i l))) := rfl
theorem knC_c (k : Int32) (q : Sp) (l : List Sp) : knC k (q :: l) = (if q.1 = k then 1 else 0) + knC k l := rfl
theorem knC_app (k : Int32) (B : List Sp) : ∀ A : List Sp, knC k (A ++ B) = knC k A + knC k B
  | [] => by
    show knC k B = 0 + knC k B
    omega
  | q :: A => by rw [List.cons_append, knC_c, knC_c, knC_app k B A]; omega
theorem nuS_app {n : Nat} {B : List Sp} : ∀ {A : List Sp} {i : Nat}, nuS n i A → (∀ q, q ∈ A → q.1 ≠ 3) → nuS n (i + knC 0 A) B → nuS n i (A ++ B)
  | [], i, _, _, h => h
  | q :: A, i, h, hd, hB => by
    rw [List.cons_append, nuS_c]
    rw [nuS_c] at h
    rw [knC_c] at hB
    obtain ⟨h1, h2, h3⟩ := h
    have hd' : ∀ q, q ∈ A → q.1 ≠ 3 := fun q hq => hd q (List.mem_cons_of_mem _ hq)
    refine ⟨h1, h2, ?_⟩
    rcases h3 with ⟨a, b, c⟩ | ⟨a, b, c⟩ | ⟨a, -, -⟩
    · rw [if_pos a] at hB
      exact Or.inl ⟨a, b, nuS_app c hd' (by rw [Nat.add_assoc]; exact hB)⟩
    · have a0 : ¬ q.1 = 0 := by rcases a with a | a <;> rw [a] <;> decide
      rw [if_neg a0, Nat.zero_add] at hB
      exact Or.inr (Or.inl ⟨a, b, nuS_app c hd' hB⟩)
    · exact absurd a (hd q List.mem_cons_self)
/-- what the class writes for a twig -/
def nuR (n : Nat) (Z Z' : Zs) : Prop := ∃ S, Z'.1 = Z.1 ++ S ∧ nuS n Z.2 S ∧ (∀ q, q ∈ S → q.1 ≠ 3) ∧ Z'.2 = Z.2 + knC 0 S
theorem nuR_r (n : Nat) (Z : Zs) : nuR n Z Z := ⟨[], by rw [List.append_nil], trivial, fun q hq => (by cases hq), rfl⟩
theorem nuR_t {n : Nat} {Z Z1 Z2 : Zs} (h : nuR n Z Z1) (h' : nuR n Z1 Z2) : nuR n Z Z2 := by
  obtain ⟨S, a1, a2, a3, a4⟩ := h
  obtain ⟨S', b1, b2, b3, b4⟩ := h'
  refine ⟨S ++ S', by rw [b1, a1, List.append_assoc], nuS_app a2 a3 (by rw [← a4]; exact b2), fun q hq => ?_, by rw [b4, a4, knC_app, Nat.add_assoc]⟩
  rcases List.mem_append.mp hq with e | e
  · exact a3 q e
  · exact b3 q e
theorem k03 : (0 : Int32) ≠ 3 := by decide
theorem k13 : (1 : Int32) ≠ 3 := by decide
theorem k23 : (2 : Int32) ≠ 3 := by decide
theorem k10 : ¬ (1 : Int32) = 0 := by decide
theorem k20 : ¬ (2 : Int32) = 0 := by decide
theorem cwN_nu {t w : Tr} {M : Pr} {X : Nat → Bool} {y : Nat} {p b : Int32} {Z : Zs} (hp : pW t w M) (h1 : rfO (t.1 + Z.2) p) (h2 : rfO (t.1 + Z.2) b) : nuR t.1 Z (cwN t w M X y p b Z) := by
  have m1 : rfO (t.1 + Z.2) (-1) := Or.inl rfl
  unfold cwN
  cases ho : M.2 y with
  | none =>
    rw [stO_n, inO_n]
    refine ⟨_, rfl, ⟨h1, h2, Or.inl ⟨rfl, rfl, trivial⟩⟩, fun q hq => ?_, ?_⟩
    · rcases List.mem_cons.mp hq with e | e
      · rw [e]; exact k03
      · cases e
    · rw [knC_c, if_pos rfl]; rfl
  | some x =>
    have hx := (hp.2 y x ho).2
    rw [stO_s, inO_s]
    by_cases c1 : t.2.2.2 x = w.2.2.2 y
    · by_cases c2 : X x = true
      · rw [if_pos c1, if_pos c2]
        exact ⟨[], rfl, trivial, fun q hq => (by cases hq), rfl⟩
      · rw [if_pos c1, if_neg c2]
        refine ⟨_, rfl, ⟨h1, h2, Or.inr (Or.inl ⟨Or.inr rfl, ⟨x, hx, rfl⟩, trivial⟩)⟩, fun q hq => ?_, ?_⟩
        · rcases List.mem_cons.mp hq with e | e
          · rw [e]; exact k23
          · cases e
        · rw [List.nil_append, knC_c, if_neg k20]; rfl
    · by_cases c2 : X x = true
      · rw [if_neg c1, if_pos c2]
        refine ⟨_, rfl, ⟨m1, m1, Or.inr (Or.inl ⟨Or.inl rfl, ⟨x, hx, rfl⟩, trivial⟩)⟩, fun q hq => ?_, ?_⟩
        · rcases List.mem_cons.mp hq with e | e
          · rw [e]; exact k13
          · cases e
        · rw [List.append_nil, knC_c, if_neg k10]; rfl
      · rw [if_neg c1, if_neg c2]
        refine ⟨_, rfl, ⟨m1, m1, Or.inr (Or.inl ⟨Or.inl rfl, ⟨x, hx, rfl⟩, h1, h2, Or.inr (Or.inl ⟨Or.inr rfl, ⟨x, hx, rfl⟩, trivial⟩)⟩)⟩, fun q hq => ?_, ?_⟩
        · rcases List.mem_cons.mp hq with e | e
          · rw [e]; exact k13
          · rcases List.mem_cons.mp e with e | e
            · rw [e]; exact k23
            · cases e
        · rw [List.cons_append, knC_c, if_neg k10, List.nil_append, knC_c, if_neg k20]; rfl
theorem cp_rf {t w : Tr} {M : Pr} (hp : pW t w M) (y i : Nat) : rfO (t.1 + (i + inO (M.2 y))) (cpO t i (M.2 y)) := by
  cases ho : M.2 y with
  | none => exact Or.inr ⟨t.1 + i, by rw [inO_n]; omega, rfl⟩
  | some x => exact Or.inr ⟨x, by have := (hp.2 y x ho).2; omega, rfl⟩
theorem cw_nu {t w : Tr} {M : Pr} {X : Nat → Bool} (hp : pW t w M) (hw' : tW w) : ∀ (f y : Nat) (p b : Int32) (Z : Zs), y < w.1 → w.1 - y ≤ f → rfO (t.1 + Z.2) p → rfO (t.1 + Z.2) b → nuR t.1 Z (cw t w M X f y p b Z) ∧ rfO (t.1 + (cw t w M X f y p b Z).2) (cpO t Z.2 (M.2 y))
  | 0, y, p, b, Z, hy, hf, h1, h2 => by omega
  | f + 1, y, p, b, Z, hy, hf, h1, h2 => by
    rw [cw_s]
    have hk : ∀ (l : List Nat) (b' : Int32) (Y : Zs), (∀ c, c ∈ l → y < c ∧ c < w.1) → Z.2 + inO (M.2 y) ≤ Y.2 → rfO (t.1 + Y.2) b' → nuR t.1 Y (cwk t M (fun c b' Z' => cw t w M X f c (cpO t Z.2 (M.2 y)) b' Z') l b' Y) := by
      intro l
      induction l with
      | nil => intro b' Y _ _ _; exact nuR_r t.1 Y
      | cons c l ih =>
        intro b' Y hl hY hb
        rw [cwk_c]
        obtain ⟨c1, c2⟩ := hl c List.mem_cons_self
        obtain ⟨g1, g2⟩ := cw_nu (X := X) hp hw' f c (cpO t Z.2 (M.2 y)) b' Y c2 (by omega) (rfO_m (by omega) (cp_rf hp y Z.2)) hb
        have hm := cw_mono t w M X f c (cpO t Z.2 (M.2 y)) b' Y
        exact nuR_t g1 (ih _ _ (fun c' hc' => hl c' (List.mem_cons_of_mem _ hc')) (by omega) g2)
    have hN := cwN_nu (X := X) (y := y) hp h1 h2
    have e2 : (cwN t w M X y p b Z).2 = Z.2 + inO (M.2 y) := rfl
    have h12' := hw'.1
    refine ⟨nuR_t hN (hk _ _ _ (fun c hc => by
      obtain ⟨k1, k2, -⟩ := kl_pm (by omega) hc
      exact ⟨k1, k2⟩) (Nat.le_of_eq e2.symm) (Or.inl rfl)), ?_⟩
    have hm := cwk_mono (t := t) (M := M) (fun c b Z' => cw_mono t w M X f c (cpO t Z.2 (M.2 y)) b Z') (kl w w.1 y) (-1) (cwN t w M X y p b Z)
    exact rfO_m (Nat.add_le_add_left hm t.1) (cp_rf hp y Z.2)
theorem dl_nu {M : Pr} {n i : Nat} (hn12 : n ≤ 12) : ∀ m, m ≤ n → nuS n i (dlF M m) ∧ (∀ q, q ∈ dlF M m → q.1 = 3 ∧ ∃ x, x < m ∧ q.2.1 = nI x ∧ M.1 x = none) ∧ knC 0 (dlF M m) = 0
  | 0, _ => ⟨trivial, fun q hq => (by cases hq), rfl⟩
  | m + 1, h => by
    obtain ⟨h1, h2, h3⟩ := dl_nu (M := M) (n := n) (i := i) hn12 m (by omega)
    rw [dlF_s]
    cases ho : M.1 m with
    | none =>
      rw [dlO_n]
      refine ⟨⟨Or.inl rfl, Or.inl rfl, Or.inr (Or.inr ⟨rfl, ⟨m, by omega, rfl, fun r hr _ e => ?_⟩, h1⟩)⟩, fun q hq => ?_, ?_⟩
      · obtain ⟨-, x, x1, x2, -⟩ := h2 r hr
        rw [x2] at e
        have := (nI_eq (by omega) (by omega)).mp e
        omega
      · rcases List.mem_cons.mp hq with e | e
        · rw [e]; exact ⟨rfl, m, by omega, rfl, ho⟩
        · obtain ⟨a, x, x1, x2⟩ := h2 q e
          exact ⟨a, x, by omega, x2⟩
      · show knC 0 ((3, nI m, -1, -1, -1, 0) :: dlF M m) = 0
        rw [knC_c, if_neg (show ¬ (3 : Int32) = 0 by decide), h3]
    | some y =>
      rw [dlO_s]
      refine ⟨h1, fun q hq => ?_, h3⟩
      obtain ⟨a, x, x1, x2⟩ := h2 q hq
      exact ⟨a, x, by omega, x2⟩
/-- the script of a diff -/
theorem scr_nu {t w : Tr} {M : Pr} {X : Nat → Bool} (hw : tW t) (hw' : tW w) (hu : 0 < w.1) (hp : pW t w M) : nuS t.1 0 (scr t w M X) ∧ knC 0 (scr t w M X) = scI t w M X := by
  have h12 := hw.1
  have h12' := hw'.1
  obtain ⟨⟨S, a1, a2, a3, a4⟩, -⟩ := cw_nu (X := X) hp hw' 13 0 (-1) (-1) ([], 0) hu (by omega) (Or.inl rfl) (Or.inl rfl)
  obtain ⟨d1, d2, d3⟩ := dl_nu (M := M) (n := t.1) (i := 0 + knC 0 S) h12 t.1 (Nat.le_refl _)
  unfold scr scI
  rw [a1, List.nil_append]
  refine ⟨nuS_app a2 a3 d1, ?_⟩
  rw [knC_app, d3, a4]
  show knC 0 S + 0 = 0 + knC 0 S
  omega
/-! every node left has its parent left -/
/-- nothing, or a node that stays -/
def gP (t : Tr) (M : Pr) (i : Nat) (p : Int32) : Prop := p = -1 ∨ ∃ m, p = nI m ∧ m < t.1 + i ∧ (t.1 ≤ m ∨ (M.1 m).isSome = true)
theorem gP_m {t : Tr} {M : Pr} {i i' : Nat} {p : Int32} (h : i ≤ i') (hp : gP t M i p) : gP t M i' p := by
  rcases hp with e | ⟨m, m1, m2, m3⟩
  · exact Or.inl e
  · exact Or.inr ⟨m, m1, by omega, m3⟩
theorem cp_gP {t w : Tr} {M : Pr} (hp : pW t w M) (hI : mI M) (y i : Nat) : gP t M (i + inO (M.2 y)) (cpO t i (M.2 y)) := by
  cases ho : M.2 y with
  | none => exact Or.inr ⟨t.1 + i, rfl, by rw [inO_n]; omega, Or.inl (by omega)⟩
  | some x => exact Or.inr ⟨x, rfl, by have := (hp.2 y x ho).2; omega, Or.inr (by rw [(hI x y).mpr ho]; rfl)⟩
/-- the parents after a step -/
def abS (a : Nat → Int32) (q : Sp) : Nat → Int32 := if q.1 = 0 ∨ q.1 = 2 then upd a q.2.1.toNatClampNeg q.2.2.1 else a
theorem abS_do (R : Rs) (q : Sp) : (doS R q).2.2.1 = abS R.2.2.1 q := by
  unfold doS abS
  by_cases h0 : q.1 = 0
  · rw [if_pos h0, if_pos (Or.inl h0)]
  · rw [if_neg h0]
    by_cases h1 : q.1 = 1
    · rw [if_pos h1, if_neg (by rw [h1]; decide)]
    · rw [if_neg h1]
      by_cases h2 : q.1 = 2
      · rw [if_pos h2, if_pos (Or.inr h2)]
      · rw [if_neg h2, if_neg (fun q => q.elim h0 h2)]
theorem abS_run : ∀ (S : List Sp) (R : Rs), (S.foldl doS R).2.2.1 = S.foldl abS R.2.2.1
  | [], _ => rfl
  | q :: S, R => by rw [List.foldl_cons, List.foldl_cons, abS_run S, abS_do]
/-- good parents stay good, and those of the twig become so -/
def gRl (t w : Tr) (M : Pr) (P : Nat → Prop) (i i' : Nat) (a a' : Nat → Int32) : Prop := i ≤ i' ∧ (∀ n, (gP t M i (a n) ∨ (∃ z, P z ∧ z < w.1 ∧ M.2 z = some n) ∨ (t.1 + i ≤ n ∧ n < t.1 + i')) → gP t M i' (a' n)) ∧ ∀ x, x < t.1 → (a x = t.2.1 x ∨ gP t M i (a x)) → (a' x = t.2.1 x ∨ gP t M i' (a' x))
theorem nodeG {t w : Tr} {M : Pr} {X : Nat → Bool} {y : Nat} {p b : Int32} {i : Nat} {a : Nat → Int32} (hw : tW t) (hp : pW t w M) (hI : mI M) (hT : sT t w M t.1 X) (h12 : i ≤ 12) (hgp : gP t M i p) (ha : ∀ x, x < t.1 → (a x = t.2.1 x ∨ gP t M i (a x))) : gRl t w M (fun z => z = y) i (i + inO (M.2 y)) a ((stO t w X y p b i (M.2 y)).foldl abS a) := by
  have h12t := hw.1
  have key : ∀ (v : Nat) (i' : Nat), i ≤ i' → v < 2 ^ 31 → (∀ n, (gP t M i (a n) ∨ n = v) → gP t M i' (upd a v p n)) ∧ ∀ x, x < t.1 → (upd a v p x = t.2.1 x ∨ gP t M i' (upd a v p x)) := by
    intro v i' hi hv
    have hg := gP_m hi hgp
    refine ⟨fun n h => ?_, fun x hx => ?_⟩
    · unfold upd
      by_cases e : n = v
      · rw [if_pos e]; exact hg
      · rw [if_neg e]; exact gP_m hi (h.resolve_right e)
    · unfold upd
      by_cases e : x = v
      · rw [if_pos e]; exact Or.inr hg
      · rw [if_neg e]
        rcases ha x hx with q | q
        · exact Or.inl q
        · exact Or.inr (gP_m hi q)
  cases ho : M.2 y with
  | none =>
    rw [stO_n, inO_n]
    have e : ([(0, nI (t.1 + i), p, b, w.2.2.1 y, w.2.2.2 y)] : List Sp).foldl abS a = upd a (t.1 + i) p := by
      rw [List.foldl_cons, List.foldl_nil]
      unfold abS
      dsimp only
      rw [if_pos (Or.inl rfl), nI_clamp (by omega)]
    rw [e]
    obtain ⟨k1, k2⟩ := key (t.1 + i) (i + 1) (by omega) (by omega)
    refine ⟨by omega, fun n h => ?_, fun x hx _ => k2 x hx⟩
    refine k1 n ?_
    rcases h with q | ⟨z, rfl, -, q⟩ | q
    · exact Or.inl q
    · rw [ho] at q; cases q
    · exact Or.inr (by omega)
  | some x =>
    have hxt := (hp.2 y x ho).2
    rw [stO_s, inO_s]
    have hU : ∀ U : List Sp, (U = [] ∨ U = [(1, nI x, -1, -1, -1, w.2.2.2 y)]) → U.foldl abS a = a := by
      intro U hU
      rcases hU with rfl | rfl
      · rfl
      · rw [List.foldl_cons, List.foldl_nil]
        unfold abS
        dsimp only
        rw [if_neg (by decide)]
    have hU2 : (if t.2.2.2 x = w.2.2.2 y then [] else [(1, nI x, -1, -1, -1, w.2.2.2 y)]) = ([] : List Sp) ∨ (if t.2.2.2 x = w.2.2.2 y then [] else [(1, nI x, -1, -1, -1, w.2.2.2 y)]) = ([(1, nI x, -1, -1, -1, w.2.2.2 y)] : List Sp) := by
      split
      · exact Or.inl rfl
      · exact Or.inr rfl
    rw [List.foldl_append, hU _ hU2]
    cases hX : X x with
    | true =>
      rw [if_pos rfl]
      -- a settled node's parent has a partner
      have hgx : gP t M (i + 0) (a x) := by
        rcases ha x hxt with q | q
        · rw [q]
          rcases hT.2.2 x hxt hX with c | ⟨a', z, c1, c2, c3⟩
          · rw [(kn_iff.mp c).1]; exact Or.inl rfl
          · rw [(kn_iff.mp c3).1]
            exact Or.inr ⟨a', rfl, by omega, Or.inr (by rw [c2]; rfl)⟩
        · exact q
      refine ⟨by omega, fun n h => ?_, fun z hz h => h⟩
      rcases h with q | ⟨z, rfl, -, q⟩ | q
      · exact q
      · rw [ho] at q; cases q; exact hgx
      · omega
    | false =>
      rw [if_neg (by decide)]
      have e : ([(2, nI x, p, b, -1, 0)] : List Sp).foldl abS a = upd a x p := by
        rw [List.foldl_cons, List.foldl_nil]
        unfold abS
        dsimp only
        rw [if_pos (Or.inr rfl), nI_clamp (by omega)]
      rw [e]
      obtain ⟨k1, k2⟩ := key x (i + 0) (by omega) (by omega)
      refine ⟨by omega, fun n h => ?_, fun z hz _ => k2 z hz⟩
      refine k1 n ?_
      rcases h with q | ⟨z, rfl, -, q⟩ | q
      · exact Or.inl q
      · rw [ho] at q; cases q; exact Or.inr rfl
      · omega
theorem twigG {t w : Tr} {M : Pr} {X : Nat → Bool} (hw : tW t) (hw' : tW w) (hp : pW t w M) (hI : mI M) (hT : sT t w M t.1 X) : ∀ (f y : Nat) (p b : Int32) (Z : Zs) (a : Nat → Int32), y < w.1 → w.1 - y ≤ f → (cw t w M X f y p b Z).2 ≤ 12 → gP t M Z.2 p → (∀ x, x < t.1 → (a x = t.2.1 x ∨ gP t M Z.2 (a x))) →
    ∃ S, (cw t w M X f y p b Z).1 = Z.1 ++ S ∧ gRl t w M (fun z => up w y z) Z.2 (cw t w M X f y p b Z).2 a (S.foldl abS a)
  | 0, y, p, b, Z, a, hy, hf, _, _, _ => by omega
  | f + 1, y, p, b, Z, a, hy, hf, h12b, hgp, ha => by
    have h12 := hw.1
    have h12' := hw'.1
    rw [cw_s] at h12b ⊢
    have hin : Z.2 + inO (M.2 y) ≤ 12 := Nat.le_trans (cwk_mono (fun c b Z' => cw_mono t w M X f c _ b Z') _ _ (cwN t w M X y p b Z)) h12b
    have hN := nodeG (X := X) (y := y) (b := b) hw hp hI hT (show Z.2 ≤ 12 by omega) hgp ha
    have hcp := cp_gP hp hI y Z.2
    have hk : ∀ (m c : Nat) (b' : Int32) (Y : Zs) (a : Nat → Int32), c + m = w.1 → y < c → Z.2 + inO (M.2 y) ≤ Y.2 → (cwk t M (fun c b' Z' => cw t w M X f c (cpO t Z.2 (M.2 y)) b' Z') (klF w y m c) b' Y).2 ≤ 12 → (∀ x, x < t.1 → (a x = t.2.1 x ∨ gP t M Y.2 (a x))) →
        ∃ S, (cwk t M (fun c b' Z' => cw t w M X f c (cpO t Z.2 (M.2 y)) b' Z') (klF w y m c) b' Y).1 = Y.1 ++ S ∧ gRl t w M (fun z => ∃ c', c ≤ c' ∧ c' < w.1 ∧ w.2.1 c' = nI y ∧ up w c' z) Y.2 (cwk t M (fun c b' Z' => cw t w M X f c (cpO t Z.2 (M.2 y)) b' Z') (klF w y m c) b' Y).2 a (S.foldl abS a) := by
      intro m
      induction m with
      | zero =>
        intro c b' Y a hcm hyc hY hle ha
        refine ⟨[], by rw [List.append_nil]; rfl, Nat.le_refl _, fun n h => ?_, fun x hx h => h⟩
        rcases h with q | ⟨z, ⟨c', c1, c2, -⟩, -⟩ | q
        · exact q
        · omega
        · have : (cwk t M (fun c b' Z' => cw t w M X f c (cpO t Z.2 (M.2 y)) b' Z') (klF w y 0 c) b' Y).2 = Y.2 := rfl
          omega
      | succ m ih =>
        intro c b' Y a hcm hyc hY hle ha
        by_cases h : w.2.1 c = nI y
        · rw [klF_s, if_pos h, cwk_c] at hle ⊢
          have hle1 : (cw t w M X f c (cpO t Z.2 (M.2 y)) b' Y).2 ≤ 12 := Nat.le_trans (cwk_mono (fun c b Z' => cw_mono t w M X f c _ b Z') _ _ _) hle
          obtain ⟨S1, s1, v1, v2, v3⟩ := twigG hw hw' hp hI hT f c (cpO t Z.2 (M.2 y)) b' Y a (by omega) (by omega) hle1 (gP_m hY hcp) ha
          generalize hY1 : cw t w M X f c (cpO t Z.2 (M.2 y)) b' Y = Y1 at s1 v1 v2 v3 hle hle1
          obtain ⟨S2, s2, u1, u2, u3⟩ := ih (c + 1) (cpO t Y.2 (M.2 c)) Y1 (S1.foldl abS a) (by omega) (by omega) (by omega) hle (fun x hx => v3 x hx (ha x hx))
          refine ⟨S1 ++ S2, by rw [s2, s1, List.append_assoc], by omega, fun n hn => ?_, fun x hx hax => ?_⟩
          · rw [List.foldl_append]
            rcases hn with q | ⟨z, ⟨c', c1, c2, c3, c4⟩, hz, q⟩ | q
            · exact u2 n (Or.inl (v2 n (Or.inl q)))
            · by_cases e : c' = c
              · rw [e] at c4
                exact u2 n (Or.inl (v2 n (Or.inr (Or.inl ⟨z, c4, hz, q⟩))))
              · exact u2 n (Or.inr (Or.inl ⟨z, ⟨c', by omega, c2, c3, c4⟩, hz, q⟩))
            · by_cases e : n < t.1 + Y1.2
              · exact u2 n (Or.inl (v2 n (Or.inr (Or.inr ⟨q.1, e⟩))))
              · exact u2 n (Or.inr (Or.inr ⟨by omega, q.2⟩))
          · rw [List.foldl_append]
            exact u3 x hx (v3 x hx hax)
        · rw [klF_s, if_neg h] at hle ⊢
          obtain ⟨S, s1, u1, u2, u3⟩ := ih (c + 1) b' Y a (by omega) (by omega) hY hle ha
          refine ⟨S, s1, u1, fun n hn => u2 n ?_, u3⟩
          rcases hn with q | ⟨z, ⟨c', c1, c2, c3, c4⟩, hz, q⟩ | q
          · exact Or.inl q
          · refine Or.inr (Or.inl ⟨z, ⟨c', ?_, c2, c3, c4⟩, hz, q⟩)
            by_cases e : c' = c
            · rw [e] at c3; exact absurd c3 h
            · omega
          · exact Or.inr (Or.inr q)
    obtain ⟨S2, s2, u1, u2, u3⟩ := hk (w.1 - (y + 1)) (y + 1) (-1) (cwN t w M X y p b Z) _ (by omega) (by omega) (Nat.le_refl _) h12b (fun x hx => hN.2.2 x hx (ha x hx))
    have e2 : (cwN t w M X y p b Z).2 = Z.2 + inO (M.2 y) := rfl
    refine ⟨stO t w X y p b Z.2 (M.2 y) ++ S2, ?_, Nat.le_trans (Nat.le_add_right _ _) u1, fun n hn => ?_, fun x hx hax => ?_⟩
    · show (cwk _ _ _ _ _ _).1 = _
      unfold kl
      rw [s2, ← List.append_assoc]; rfl
    · rw [List.foldl_append]
      rcases hn with q | ⟨z, hz, hzw, q⟩ | q
      · exact u2 n (Or.inl (hN.2.1 n (Or.inl q)))
      · by_cases e : z = y
        · exact u2 n (Or.inl (hN.2.1 n (Or.inr (Or.inl ⟨z, e, hzw, q⟩))))
        · have hb : bl w y z = true := hz.resolve_left e
          obtain ⟨c, c1, c2, c3⟩ := (bl_kid z).mp hb
          have c4 : up w c z := by
            rcases c3 with q | q
            · exact Or.inl q.symm
            · exact Or.inr q
          have c5 := up_le c4
          have yc : y < c := by rw [← c2]; exact pm_lt w c1
          refine u2 n (Or.inr (Or.inl ⟨z, ⟨c, by omega, by omega, ?_, c4⟩, hzw, q⟩))
          rw [pm_eq hw' c1 (by omega), c2]
      · by_cases e : n < t.1 + (Z.2 + inO (M.2 y))
        · exact u2 n (Or.inl (hN.2.1 n (Or.inr (Or.inr ⟨q.1, e⟩))))
        · exact u2 n (Or.inr (Or.inr ⟨by rw [e2]; omega, q.2⟩))
    · rw [List.foldl_append]
      exact u3 x hx (hN.2.2 x hx hax)
/-- every parent is there -/
def clR (R : Rs) : Prop := ∀ z, z ∈ R.2.1 → R.2.2.1 z = -1 ∨ ∃ m, m ∈ R.2.1 ∧ R.2.2.1 z = nI m
theorem dlRun {M : Pr} : ∀ (n : Nat) (R : Rs), n ≤ 12 → ((dlF M n).foldl doS R).2.2.1 = R.2.2.1 ∧ ∀ z, z ∈ ((dlF M n).foldl doS R).2.1 ↔ z ∈ R.2.1 ∧ ¬ (z < n ∧ M.1 z = none)
  | 0, R, _ => ⟨rfl, fun z => ⟨fun h => ⟨h, fun q => absurd q.1 (Nat.not_lt_zero _)⟩, fun h => h.1⟩⟩
  | n + 1, R, h12 => by
    rw [dlF_s]
    cases ho : M.1 n with
    | none =>
      rw [dlO_n]
      show ((dlF M n).foldl doS (doS R (3, nI n, -1, -1, -1, 0))).2.2.1 = R.2.2.1 ∧ ∀ z, z ∈ ((dlF M n).foldl doS (doS R (3, nI n, -1, -1, -1, 0))).2.1 ↔ _
      rw [doS_3 R n (by omega)]
      obtain ⟨h1, h2⟩ := dlRun (M := M) n (R.1, rmv n R.2.1, R.2.2) (by omega)
      refine ⟨h1, fun z => ?_⟩
      rw [h2, rmv_mem]
      constructor
      · rintro ⟨⟨a, b⟩, c⟩
        refine ⟨a, fun q => c ⟨by omega, q.2⟩⟩
      · rintro ⟨a, b⟩
        refine ⟨⟨a, fun e => b ⟨by omega, by rw [e]; exact ho⟩⟩, fun q => b ⟨by omega, q.2⟩⟩
    | some y =>
      rw [dlO_s]
      obtain ⟨h1, h2⟩ := dlRun (M := M) n R (by omega)
      refine ⟨h1, fun z => ?_⟩
      rw [List.nil_append, h2]
      constructor
      · rintro ⟨a, b⟩
        refine ⟨a, fun q => ?_⟩
        by_cases e : z = n
        · have := q.2; rw [e, ho] at this; cases this
        · exact b ⟨by omega, q.2⟩
      · rintro ⟨a, b⟩
        exact ⟨a, fun q => b ⟨by omega, q.2⟩⟩
/-- what a whole script leaves -/
theorem scr_end {t w : Tr} {M : Pr} {X : Nat → Bool} (hw : tW t) (hw' : tW w) (hu : 0 < w.1) (hp : pW t w M) (hI : mI M) (hT : sT t w M t.1 X) : clR ((scr t w M X).foldl doS (trR t)) ∧ (∀ z, z ∈ ((scr t w M X).foldl doS (trR t)).2.1 → z < t.1 + scI t w M X) ∧ ∀ x, x < t.1 → M.1 x ≠ none → x ∈ ((scr t w M X).foldl doS (trR t)).2.1 := by
  have h12 := hw.1
  have h12' := hw'.1
  obtain ⟨l1, l2⟩ := scr_len (X := X) hw hw' hu hI hp
  have hR : inR t 0 (trR t) := fun z => by
    show z ∈ List.range t.1 ↔ z < t.1 + 0
    rw [List.mem_range]; omega
  have hI12 : (cw t w M X 13 0 (-1) (-1) ([], 0)).2 ≤ 12 := by unfold scI at l2; omega
  obtain ⟨S, e, v1, v2, v3, -, -⟩ := twigR hw hw' hp hI hT 13 0 (-1) (-1) ([], 0) (trR t) hu (by omega) (by decide) (Or.inl (by decide)) hI12 hR (fun m hm e => absurd e.symm (nI_m1 m (by
    have : m < t.1 + 0 := hm
    omega))) (fun z x _ _ => rfl) (fun x hMx hXx => by
      have hxt := (hp.2 0 x hMx).2
      have hM := (hI x 0).mpr hMx
      have h0 : w.2.1 0 = -1 := by
        rcases hw'.2 0 hu with ⟨-, q⟩ | ⟨m, hm, -⟩
        · exact q
        · omega
      rcases hT.2.2 x hxt hXx with q | ⟨a, z, -, q2, q3⟩
      · exact (kn_iff.mp q).1
      · obtain ⟨e0, y', e1, e2⟩ := kn_iff.mp q3
        rw [hM] at e1
        cases e1
        have hz := (hp.1 a z q2).2
        exact absurd (e2.symm.trans h0) (nI_m1 z (by omega)))
  obtain ⟨S', e', g1, g2, g3⟩ := twigG hw hw' hp hI hT 13 0 (-1) (-1) ([], 0) t.2.1 hu (by omega) hI12 (Or.inl rfl) (fun x _ => Or.inl rfl)
  have eS : S' = S := by
    rw [e, List.nil_append, List.nil_append] at e'
    exact e'.symm
  subst eS
  have hup : ∀ z, up w 0 z := by
    intro z
    induction z using Nat.strongRecOn with
    | ind z ih =>
      by_cases e : z = 0
      · exact Or.inl e
      · have z0 : 0 < z := by omega
        right
        rcases ih (pm w z) (pm_lt w z0) with q | q
        · exact (bl_iff z0).mpr (Or.inl q)
        · exact (bl_iff z0).mpr (Or.inr q)
  unfold scr scI
  rw [e, List.nil_append, List.foldl_append]
  obtain ⟨d1, d2⟩ := dlRun (M := M) t.1 (S'.foldl doS (trR t)) h12
  have hmem : ∀ z, z ∈ ((dlF M t.1).foldl doS (S'.foldl doS (trR t))).2.1 ↔ z < t.1 + (cw t w M X 13 0 (-1) (-1) ([], 0)).2 ∧ ¬ (z < t.1 ∧ M.1 z = none) := fun z => by rw [d2, v2]
  refine ⟨fun z hz => ?_, fun z hz => ((hmem z).mp hz).1, fun x hx hne => (hmem x).mpr ⟨by omega, fun q => hne q.2⟩⟩
  obtain ⟨z1, z2⟩ := (hmem z).mp hz
  rw [d1, abS_run]
  have hg : gP t M (cw t w M X 13 0 (-1) (-1) ([], 0)).2 (S'.foldl abS t.2.1 z) := by
    refine g2 z (Or.inr ?_)
    by_cases c : z < t.1
    · cases ho : M.1 z with
      | none => exact absurd ⟨c, ho⟩ z2
      | some y => exact Or.inl ⟨y, hup y, (hp.1 z y ho).2, (hI z y).mp ho⟩
    · exact Or.inr ⟨by show t.1 + 0 ≤ z; omega, z1⟩
  rcases hg with q | ⟨m, m1, m2, m3⟩
  · exact Or.inl q
  · refine Or.inr ⟨m, (hmem m).mpr ⟨m2, fun q => ?_⟩, m1⟩
    rcases m3 with c | c
    · omega
    · rw [q.2] at c; cases c
