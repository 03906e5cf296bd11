/-! merge: what each step of the second script does -/
def spO (o : Option Sp) (j : Nat) : Int32 := match o with
  | some q => spC q j
  | none => 0
def lg (l : List Sp) (j k : Nat) : Int32 := spO l[k]? j
theorem lg_at {l : List Sp} {k : Nat} {q : Sp} (h : l[k]? = some q) (j : Nat) : lg l j k = spC q j := by unfold lg; rw [h]; rfl
/-- the first i with P -/
def fiF (P : Nat → Bool) : Nat → Nat → Option Nat
  | 0, _ => none
  | m + 1, i => if P i = true then some i else fiF P m (i + 1)
theorem fiF_s (P : Nat → Bool) (m i : Nat) : fiF P (m + 1) i = if P i = true then some i else fiF P m (i + 1) := rfl
theorem fiF_some {P : Nat → Bool} : ∀ {m i k : Nat}, fiF P m i = some k → i ≤ k ∧ k < i + m ∧ P k = true
  | 0, i, k, h => by cases h
  | m + 1, i, k, h => by
    rw [fiF_s] at h
    by_cases e : P i = true
    · rw [if_pos e] at h; cases h; exact ⟨Nat.le_refl _, by omega, e⟩
    · rw [if_neg e] at h
      obtain ⟨a, b, c⟩ := fiF_some h
      exact ⟨by omega, by omega, c⟩
theorem fiF_ex {P : Nat → Bool} : ∀ {m i k : Nat}, i ≤ k → k < i + m → P k = true → (fiF P m i).isSome = true
  | 0, i, k, h1, h2, _ => by omega
  | m + 1, i, k, h1, h2, hk => by
    rw [fiF_s]
    by_cases e : P i = true
    · rw [if_pos e]; rfl
    · rw [if_neg e]
      have : k ≠ i := fun q => e (by rw [← q]; exact hk)
      exact fiF_ex (by omega) (by omega) hk
def sP (l : List Sp) (kd nd : Int32) (k : Nat) : Bool := decide (lg l 0 k = kd) && decide (lg l 1 k = nd)
/-- the first step of that kind for that node -/
def fdS (l : List Sp) (kd nd : Int32) : Option Nat := fiF (sP l kd nd) l.length 0
def tP (l : List Sp) (tk : Nat → Bool) (p b y x : Int32) (k : Nat) : Bool := (decide (lg l 0 k = 0) && !tk k) && ((decide (lg l 2 k = p) && decide (lg l 3 k = b)) && (decide (lg l 4 k = y) && decide (lg l 5 k = x)))
/-- the first INSERT that can be taken -/
def fdT (l : List Sp) (tk : Nat → Bool) (p b y x : Int32) : Option Nat := fiF (tP l tk p b y x) l.length 0
/-- can it be put there -/
def canB (R : Rs) (p b : Int32) : Bool := (decide (p = -1) || hsB R.2.1 p) && (decide (b = -1) || (hsB R.2.1 b && decide (R.2.2.1 b.toNatClampNeg = p)))
/-- is v met on the way up from u -/
def wiF (R : Rs) (v : Nat) : Nat → Int32 → Bool
  | 0, _ => false
  | f + 1, u => hsB R.2.1 u && (decide (u = nI v) || wiF R v f (R.2.2.1 u.toNatClampNeg))
theorem wiF_s (R : Rs) (v f : Nat) (u : Int32) : wiF R v (f + 1) u = (hsB R.2.1 u && (decide (u = nI v) || wiF R v f (R.2.2.1 u.toNatClampNeg))) := rfl
/-- the result, how many INSERTs were seen, what they mean, which were taken -/
abbrev Mg : Type := Rs × Nat × (Nat → Nat) × (Nat → Bool)
def mea (n : Nat) (mn : Nat → Nat) (z : Int32) : Int32 := if z < 0 then z else if z.toNatClampNeg < n then z else nI (mn (z.toNatClampNeg - n))
def mgIns (n I : Nat) (l : List Sp) (S : Mg) (q : Sp) (p b : Int32) : Option Nat → Option Mg
  | some k => some (S.1, S.2.1 + 1, uN S.2.2.1 S.2.1 (lg l 1 k).toNatClampNeg, bU S.2.2.2 k)
  | none => if canB S.1 p b = true then some (doS S.1 (0, nI (n + I + S.2.1), p, b, q.2.2.2.2.1, q.2.2.2.2.2), S.2.1 + 1, uN S.2.2.1 S.2.1 (n + I + S.2.1), S.2.2.2) else none
def mgUpd (l : List Sp) (S : Mg) (q : Sp) : Option Nat → Option Mg
  | some k => if lg l 5 k = q.2.2.2.2.2 then some S else none
  | none => some (doS S.1 q, S.2)
def mgMov (l : List Sp) (S : Mg) (q : Sp) (p b : Int32) : Option Nat → Option Mg
  | some k => if lg l 2 k = p ∧ lg l 3 k = b then some S else none
  | none => if canB S.1 p b = true ∧ wiF S.1 q.2.1.toNatClampNeg 37 p = false then some (doS S.1 (2, q.2.1, p, b, q.2.2.2.2.1, q.2.2.2.2.2), S.2) else none
def mgDel (l : List Sp) (S : Mg) (q : Sp) : Option Nat → Option Mg
  | some _ => some S
  | none => if (fdS l 1 q.2.1).isSome = true ∨ (fdS l 2 q.2.1).isSome = true ∨ 0 < ctL S.1.2.2.1 q.2.1 S.1.2.1 then none else some (doS S.1 q, S.2)
def mg1 (n I : Nat) (l : List Sp) (S : Mg) (q : Sp) : Option Mg :=
  if q.1 = 0 then mgIns n I l S q (mea n S.2.2.1 q.2.2.1) (mea n S.2.2.1 q.2.2.2.1) (fdT l S.2.2.2 (mea n S.2.2.1 q.2.2.1) (mea n S.2.2.1 q.2.2.2.1) q.2.2.2.2.1 q.2.2.2.2.2)
  else if q.1 = 1 then (if hsB S.1.2.1 q.2.1 = true then mgUpd l S q (fdS l 1 q.2.1) else none)
  else if q.1 = 2 then (if hsB S.1.2.1 q.2.1 = true then mgMov l S q (mea n S.2.2.1 q.2.2.1) (mea n S.2.2.1 q.2.2.2.1) (fdS l 2 q.2.1) else none)
  else mgDel l S q (fdS l 3 q.2.1)
/-- what holds before the steps r are merged -/
def mgV (n I : Nat) (l : List Sp) (S : Mg) (r : List Sp) : Prop := (n ≤ 12 ∧ I ≤ 12 ∧ S.2.1 + knC 0 r ≤ 12) ∧ rOk S.1 ∧ clR S.1 ∧ (∀ z, z ∈ S.1.2.1 → z < n + I + S.2.1) ∧ (∀ j, j < S.2.1 → S.2.2.1 j < n + I + S.2.1) ∧ nuS n S.2.1 r ∧ nuS n 0 l ∧ knC 0 l = I ∧ l.length ≤ 24 ∧ ∀ q, q ∈ r → q.1 = 3 → (fdS l 3 q.2.1).isSome = true ∨ hsB S.1.2.1 q.2.1 = true
/-- INSERTs of a script: their numbers -/
theorem nu_ins {n : Nat} : ∀ {l : List Sp} {i k : Nat} {q : Sp}, nuS n i l → l[k]? = some q → q.1 = 0 → ∃ j, q.2.1 = nI (n + i + j) ∧ j < knC 0 l ∧ j = knC 0 (l.take k)
  | [], i, k, q, _, h, _ => by cases h
  | r :: l, i, 0, q, hn, h, h0 => by
    have h : some r = some q := h
    cases h
    rw [nuS_c] at hn
    refine ⟨0, ?_, by rw [knC_c, if_pos h0]; omega, rfl⟩
    rcases hn.2.2 with ⟨-, b, -⟩ | ⟨a, -, -⟩ | ⟨a, -, -⟩
    · exact b
    · rcases a with a | a <;> rw [a] at h0 <;> exact absurd h0 (by decide)
    · rw [a] at h0; exact absurd h0 (by decide)
  | r :: l, i, k + 1, q, hn, h, h0 => by
    have h : l[k]? = some q := h
    rw [nuS_c] at hn
    rw [List.take_succ_cons, knC_c, knC_c]
    rcases hn.2.2 with ⟨a, -, c⟩ | ⟨a, -, c⟩ | ⟨a, -, c⟩
    · obtain ⟨j, j1, j2, j3⟩ := nu_ins c h h0
      exact ⟨j + 1, by rw [j1]; congr 1; omega, by rw [if_pos a]; omega, by rw [if_pos a]; omega⟩
    · obtain ⟨j, j1, j2, j3⟩ := nu_ins c h h0
      have a0 : ¬ r.1 = 0 := by rcases a with a | a <;> rw [a] <;> decide
      exact ⟨j, j1, by rw [if_neg a0]; omega, by rw [if_neg a0]; omega⟩
    · obtain ⟨j, j1, j2, j3⟩ := nu_ins c h h0
      have a0 : ¬ r.1 = 0 := by rw [a]; decide
      exact ⟨j, j1, by rw [if_neg a0]; omega, by rw [if_neg a0]; omega⟩
theorem rfO_bOk {m : Nat} {z : Int32} (h : rfO m z) (hm : m ≤ 36) : bOk z ∧ z ≠ -2 := by
  rcases h with e | ⟨k, k1, k2⟩
  · exact ⟨Or.inl (by rw [e]; decide), by rw [e]; decide⟩
  · exact ⟨Or.inr ⟨k, k2, by omega⟩, by rw [k2]; exact nI_m2 k (by omega)⟩
/-- the meaning of a name that is known -/
theorem mea_rf {n i J : Nat} {mn : Nat → Nat} {z : Int32} (hz : rfO (n + i) z) (hn : n + i < 2 ^ 31) (hJ : n ≤ J) (hm : ∀ j, j < i → mn j < J) : rfO J (mea n mn z) := by
  unfold mea
  rcases hz with e | ⟨k, k1, k2⟩
  · rw [e, if_pos (by decide)]; exact Or.inl rfl
  · rw [k2, if_neg (nI_pos (by omega)), nI_clamp (by omega)]
    by_cases c : k < n
    · rw [if_pos c]; exact Or.inr ⟨k, by omega, rfl⟩
    · rw [if_neg c]; exact Or.inr ⟨mn (k - n), hm _ (by omega), rfl⟩
/-- where it can be put, both sides put it alike -/
theorem can_ok {R : Rs} {v : Nat} {p b : Int32} (hR : rOk R) (hp : rfO 36 p) (hb : rfO 36 b) (h : canB R p b = true) : okB R v p b ∧ (p = -1 ∨ ∃ m, m ∈ R.2.1 ∧ p = nI m) := by
  unfold canB at h
  rw [Bool.and_eq_true, Bool.or_eq_true, Bool.or_eq_true, Bool.and_eq_true, decide_eq_true_iff, decide_eq_true_iff, decide_eq_true_iff] at h
  refine ⟨⟨(rfO_bOk hp (Nat.le_refl _)).2, (rfO_bOk hb (Nat.le_refl _)).1, fun m hm _ e => ?_⟩, ?_⟩
  · rcases h.2 with q | q
    · rw [q] at e; exact absurd e.symm (nI_m1 m (rOk_lt hR m hm))
    · have := q.2
      rw [e, nI_clamp (rOk_lt hR m hm)] at this
      exact this
  · rcases h.1 with q | q
    · exact Or.inl q
    · exact Or.inr (hsB_iff.mp q)
/-- the way up -/
def sq (R : Rs) (u : Int32) : Nat → Int32
  | 0 => u
  | k + 1 => R.2.2.1 (sq R u k).toNatClampNeg
theorem sq_s (R : Rs) (u : Int32) (k : Nat) : sq R u (k + 1) = R.2.2.1 (sq R u k).toNatClampNeg := rfl
theorem sq_up (R : Rs) (u : Int32) : ∀ k, sq R (R.2.2.1 u.toNatClampNeg) k = sq R u (k + 1)
  | 0 => rfl
  | k + 1 => by rw [sq_s, sq_up R u k, ← sq_s]
theorem sq_sh {R : Rs} {u : Int32} {a b : Nat} (h : sq R u a = sq R u b) : ∀ m, sq R u (a + m) = sq R u (b + m)
  | 0 => h
  | m + 1 => by rw [← Nat.add_assoc, ← Nat.add_assoc, sq_s, sq_s, sq_sh h m]
theorem wiF_iff {R : Rs} {v : Nat} : ∀ {f : Nat} {u : Int32}, wiF R v f u = true ↔ ∃ k, k < f ∧ sq R u k = nI v ∧ ∀ j, j ≤ k → hsB R.2.1 (sq R u j) = true
  | 0, u => ⟨fun h => (by cases h), fun ⟨k, h, _⟩ => absurd h (Nat.not_lt_zero _)⟩
  | f + 1, u => by
    rw [wiF_s, Bool.and_eq_true, Bool.or_eq_true, decide_eq_true_iff, wiF_iff]
    constructor
    · rintro ⟨h1, h2⟩
      rcases h2 with e | ⟨k, k1, k2, k3⟩
      · refine ⟨0, by omega, e, fun j hj => ?_⟩
        have : j = 0 := by omega
        rw [this]; exact h1
      · refine ⟨k + 1, by omega, by rw [← sq_up]; exact k2, fun j hj => ?_⟩
        cases j with
        | zero => exact h1
        | succ j => rw [← sq_up]; exact k3 j (by omega)
    · rintro ⟨k, k1, k2, k3⟩
      refine ⟨k3 0 (Nat.zero_le _), ?_⟩
      cases k with
      | zero => exact Or.inl k2
      | succ k => exact Or.inr ⟨k, by omega, by rw [sq_up]; exact k2, fun j hj => by rw [sq_up]; exact k3 (j + 1) (by omega)⟩
theorem sq_short {R : Rs} {v : Nat} {u : Int32} (hR : rOk R) : ∀ k, sq R u k = nI v → (∀ j, j ≤ k → hsB R.2.1 (sq R u j) = true) → ∃ k', k' < R.1 ∧ sq R u k' = nI v ∧ ∀ j, j ≤ k' → hsB R.2.1 (sq R u j) = true := by
  intro k
  induction k using Nat.strongRecOn with
  | ind k ih =>
    intro h1 h2
    by_cases c : k < R.1
    · exact ⟨k, c, h1, h2⟩
    · -- two of them are the same
      have hx : ∃ a b, a < b ∧ b ≤ k ∧ sq R u a = sq R u b := by
        refine Classical.byContradiction fun hno => ?_
        have hm : ∀ j, j ≤ k → ∃ m, m ∈ R.2.1 ∧ sq R u j = nI m ∧ (sq R u j).toNatClampNeg = m := fun j hj => by
          obtain ⟨m, m1, m2⟩ := hsB_iff.mp (h2 j hj)
          exact ⟨m, m1, m2, by rw [m2]; exact nI_clamp (rOk_lt hR m m1)⟩
        have hnd : ((List.range (k + 1)).map (fun j => (sq R u j).toNatClampNeg)).Nodup := by
          refine List.Pairwise.map (R := fun a b => a ≠ b ∧ a ≤ k ∧ b ≤ k) _ ?_ ?_
          · rintro a b ⟨ne, ha, hb⟩ e
            obtain ⟨m, -, m2, m3⟩ := hm a ha
            obtain ⟨m', -, m2', m3'⟩ := hm b hb
            rw [m3, m3'] at e
            have es : sq R u a = sq R u b := by rw [m2, m2', e]
            rcases Nat.lt_or_gt_of_ne ne with q | q
            · exact hno ⟨a, b, q, hb, es⟩
            · exact hno ⟨b, a, q, ha, es.symm⟩
          · refine List.Pairwise.imp_of_mem ?_ (List.nodup_range (n := k + 1))
            intro a b ha hb ne
            exact ⟨ne, by have := List.mem_range.mp ha; omega, by have := List.mem_range.mp hb; omega⟩
        have := nd_len R.1 _ hnd (fun z hz => by
          obtain ⟨j, j1, j2⟩ := List.mem_map.mp hz
          obtain ⟨m, m1, -, m3⟩ := hm j (by have := List.mem_range.mp j1; omega)
          rw [← j2, m3]; exact hR.2.2.1 m m1)
        rw [List.length_map, List.length_range] at this
        omega
      obtain ⟨a, b, ab, bk, e⟩ := hx
      have e2 : sq R u (a + (k - b)) = sq R u k := by
        have := sq_sh e (k - b)
        rw [show b + (k - b) = k by omega] at this
        exact this
      exact ih (a + (k - b)) (by omega) (by rw [e2]; exact h1) (fun j hj => h2 j (by omega))
theorem wiF_fuel {R : Rs} {v f g : Nat} {u : Int32} (hR : rOk R) (hf : R.1 ≤ f) (hg : R.1 ≤ g) : wiF R v f u = wiF R v g u := by
  rw [Bool.eq_iff_iff, wiF_iff, wiF_iff]
  constructor
  · rintro ⟨k, -, k2, k3⟩
    obtain ⟨k', a, b, c⟩ := sq_short hR k k2 k3
    exact ⟨k', by omega, b, c⟩
  · rintro ⟨k, -, k2, k3⟩
    obtain ⟨k', a, b, c⟩ := sq_short hR k k2 k3
    exact ⟨k', by omega, b, c⟩
/-- parents stay there -/
theorem clR_ins {R : Rs} {v : Nat} {p b : Int32} {u : Nat} {y x : Nat → Int32} (hR : rOk R) (h : clR R) (hp : p = -1 ∨ ∃ m, m ∈ R.2.1 ∧ p = nI m) : clR (u, insB R.2.1 b v, upd R.2.2.1 v p, y, x) := by
  intro z hz
  have hl := rOk_lt hR
  show upd R.2.2.1 v p z = -1 ∨ ∃ m, m ∈ insB R.2.1 b v ∧ upd R.2.2.1 v p z = nI m
  by_cases e : z = v
  · rw [e, show upd R.2.2.1 v p v = p from if_pos rfl]
    rcases hp with q | ⟨m, m1, m2⟩
    · exact Or.inl q
    · exact Or.inr ⟨m, (insB_mem hl).mpr (Or.inr m1), m2⟩
  · rw [show upd R.2.2.1 v p z = R.2.2.1 z from if_neg e]
    rcases h z (((insB_mem hl).mp hz).resolve_left e) with q | ⟨m, m1, m2⟩
    · exact Or.inl q
    · exact Or.inr ⟨m, (insB_mem hl).mpr (Or.inr m1), m2⟩
theorem clR_mov {R : Rs} {v : Nat} {p b : Int32} {u : Nat} {y x : Nat → Int32} (hR : rOk R) (h : clR R) (hv : v ∈ R.2.1) (hp : p = -1 ∨ ∃ m, m ∈ R.2.1 ∧ p = nI m) : clR (u, insB (rmv v R.2.1) b v, upd R.2.2.1 v p, y, x) := by
  intro z hz
  have hl : ∀ z, z ∈ rmv v R.2.1 → z < 2 ^ 31 := fun z hz => rOk_lt hR z (rmv_mem.mp hz).1
  have hin : ∀ m, m ∈ R.2.1 → m ∈ insB (rmv v R.2.1) b v := fun m hm => (insB_mem hl).mpr (by
    by_cases e : m = v
    · exact Or.inl e
    · exact Or.inr (rmv_mem.mpr ⟨hm, e⟩))
  show upd R.2.2.1 v p z = -1 ∨ ∃ m, m ∈ insB (rmv v R.2.1) b v ∧ upd R.2.2.1 v p z = nI m
  by_cases e : z = v
  · rw [e, show upd R.2.2.1 v p v = p from if_pos rfl]
    rcases hp with q | ⟨m, m1, m2⟩
    · exact Or.inl q
    · exact Or.inr ⟨m, hin m m1, m2⟩
  · rw [show upd R.2.2.1 v p z = R.2.2.1 z from if_neg e]
    rcases h z (rmv_mem.mp (((insB_mem hl).mp hz).resolve_left e)).1 with q | ⟨m, m1, m2⟩
    · exact Or.inl q
    · exact Or.inr ⟨m, hin m m1, m2⟩
theorem ctL_pos {a : Nat → Int32} {x : Int32} : ∀ {l : List Nat}, 0 < ctL a x l ↔ ∃ z, z ∈ l ∧ a z = x
  | [] => ⟨fun h => absurd h (Nat.lt_irrefl _), fun ⟨z, h, _⟩ => (by cases h)⟩
  | w :: r => by
    rw [ctL_c]
    by_cases e : a w = x
    · rw [if_pos e]
      exact ⟨fun _ => ⟨w, List.mem_cons_self, e⟩, fun _ => by omega⟩
    · rw [if_neg e, Nat.zero_add, ctL_pos]
      constructor
      · rintro ⟨z, z1, z2⟩
        exact ⟨z, List.mem_cons_of_mem _ z1, z2⟩
      · rintro ⟨z, z1, z2⟩
        rcases List.mem_cons.mp z1 with q | q
        · rw [q] at z2; exact absurd z2 e
        · exact ⟨z, q, z2⟩
/-- the step that is really done can be done -/
theorem mg_va {n I : Nat} {l : List Sp} {S : Mg} {q : Sp} {r : List Sp} (h : mgV n I l S (q :: r)) : rfO 36 (mea n S.2.2.1 q.2.2.1) ∧ rfO 36 (mea n S.2.2.1 q.2.2.2.1) := by
  obtain ⟨⟨h1, h2, h3⟩, h4, h5, h6, h7, h8, -⟩ := h
  rw [nuS_c] at h8
  have h3' : S.2.1 ≤ 12 := by omega
  have hm : ∀ j, j < S.2.1 → S.2.2.1 j < 36 := fun j hj => by have := h7 j hj; omega
  exact ⟨mea_rf h8.1 (by omega) (by omega) hm, mea_rf h8.2.1 (by omega) (by omega) hm⟩
theorem mgV_s {n I : Nat} {l : List Sp} {S S' : Mg} {q : Sp} {r : List Sp} (h : mgV n I l S (q :: r)) (hs : mg1 n I l S q = some S') : mgV n I l S' r := by
  obtain ⟨p1, p2⟩ := mg_va h
  obtain ⟨⟨h1, h2, h3⟩, h4, h5, h6, h7, h8, h9, h10, h11, h12⟩ := h
  rw [nuS_c] at h8
  rw [knC_c] at h3
  have hd : ∀ q', q' ∈ r → q'.1 = 3 → (fdS l 3 q'.2.1).isSome = true ∨ hsB S.1.2.1 q'.2.1 = true := fun q' hq' => h12 q' (List.mem_cons_of_mem _ hq')
  unfold mg1 at hs
  rcases h8.2.2 with ⟨a, b, c⟩ | ⟨a, ⟨x, x1, x2⟩, c⟩ | ⟨a, ⟨x, x1, x2, x3⟩, c⟩
  · rw [if_pos a] at hs
    rw [if_pos a] at h3
    cases hf : fdT l S.2.2.2 (mea n S.2.2.1 q.2.2.1) (mea n S.2.2.1 q.2.2.2.1) q.2.2.2.2.1 q.2.2.2.2.2 with
    | some k =>
      rw [hf] at hs
      have hs : some _ = some S' := hs
      cases hs
      obtain ⟨-, k2, k3⟩ := fiF_some hf
      have hk : k < l.length := by omega
      have hg : l[k]? = some l[k] := List.getElem?_eq_getElem hk
      unfold tP at k3
      rw [Bool.and_eq_true, Bool.and_eq_true, decide_eq_true_iff, lg_at hg] at k3
      obtain ⟨j, j1, j2, -⟩ := nu_ins h9 hg k3.1.1
      have e1 : (lg l 1 k).toNatClampNeg = n + j := by
        rw [lg_at hg]
        show l[k].2.1.toNatClampNeg = _
        rw [j1, Nat.add_zero, nI_clamp (by omega)]
      refine ⟨⟨h1, h2, by dsimp only; omega⟩, h4, h5, fun z hz => by have := h6 z hz; dsimp only; omega, fun j' hj' => ?_, c, h9, h10, h11, hd⟩
      show uN S.2.2.1 S.2.1 (lg l 1 k).toNatClampNeg j' < n + I + (S.2.1 + 1)
      have hj' : j' < S.2.1 + 1 := hj'
      unfold uN
      by_cases e : j' = S.2.1
      · rw [if_pos e, e1]; omega
      · rw [if_neg e]; have := h7 j' (by omega); omega
    | none =>
      rw [hf] at hs
      have hs : (if canB S.1 (mea n S.2.2.1 q.2.2.1) (mea n S.2.2.1 q.2.2.2.1) = true then some (doS S.1 (0, nI (n + I + S.2.1), (mea n S.2.2.1 q.2.2.1), (mea n S.2.2.1 q.2.2.2.1), q.2.2.2.2.1, q.2.2.2.2.2), S.2.1 + 1, uN S.2.2.1 S.2.1 (n + I + S.2.1), S.2.2.2) else none) = some S' := hs
      by_cases hc : canB S.1 (mea n S.2.2.1 q.2.2.1) (mea n S.2.2.1 q.2.2.2.1) = true
      · rw [if_pos hc] at hs
        cases hs
        have hv : n + I + S.2.1 ∉ S.1.2.1 := fun q => by have := h6 _ q; omega
        obtain ⟨o1, o2⟩ := can_ok (v := n + I + S.2.1) h4 p1 p2 hc
        have hok : okS S.1 (0, nI (n + I + S.2.1), mea n S.2.2.1 q.2.2.1, mea n S.2.2.1 q.2.2.2.1, q.2.2.2.2.1, q.2.2.2.2.2) := ⟨n + I + S.2.1, rfl, by omega, Or.inl ⟨rfl, hv, o1⟩⟩
        have hR := rOk_do h4 hok
        rw [doS_0 _ _ (by omega)] at hR ⊢
        refine ⟨⟨h1, h2, by dsimp only; omega⟩, hR, clR_ins h4 h5 o2, fun z hz => ?_, fun j' hj' => ?_, c, h9, h10, h11, fun q' hq' e3 => ?_⟩
        · rcases (insB_mem (rOk_lt h4)).mp hz with e | e
          · rw [e]; dsimp only; omega
          · have := h6 z e; dsimp only; omega
        · show uN S.2.2.1 S.2.1 (n + I + S.2.1) j' < n + I + (S.2.1 + 1)
          have hj' : j' < S.2.1 + 1 := hj'
          unfold uN
          by_cases e : j' = S.2.1
          · rw [if_pos e]; omega
          · rw [if_neg e]; have := h7 j' (by omega); omega
        · rcases hd q' hq' e3 with w | w
          · exact Or.inl w
          · obtain ⟨m, m1, m2⟩ := hsB_iff.mp w
            exact Or.inr (hsB_iff.mpr ⟨m, (insB_mem (rOk_lt h4)).mpr (Or.inr m1), m2⟩)
      · rw [if_neg hc] at hs; cases hs
  · have a0 : ¬ q.1 = 0 := by rcases a with a | a <;> rw [a] <;> decide
    rw [if_neg a0] at hs
    rw [if_neg a0, Nat.zero_add] at h3
    have same : S' = S → mgV n I l S' r := fun e => by
      rw [e]
      exact ⟨⟨h1, h2, h3⟩, h4, h5, h6, h7, c, h9, h10, h11, hd⟩
    rcases a with a | a
    · rw [if_pos a] at hs
      by_cases hh : hsB S.1.2.1 q.2.1 = true
      · rw [if_pos hh] at hs
        cases hf : fdS l 1 q.2.1 with
        | some k =>
          rw [hf] at hs
          have hs : (if lg l 5 k = q.2.2.2.2.2 then some S else none) = some S' := hs
          by_cases e : lg l 5 k = q.2.2.2.2.2
          · rw [if_pos e] at hs; cases hs; exact same rfl
          · rw [if_neg e] at hs; cases hs
        | none =>
          rw [hf] at hs
          have hs : some (doS S.1 q, S.2) = some S' := hs
          cases hs
          have e : doS S.1 q = (S.1.1, S.1.2.1, S.1.2.2.1, S.1.2.2.2.1, upd S.1.2.2.2.2 x q.2.2.2.2.2) := by
            obtain ⟨k', nd, p, b, y, lb⟩ := q
            dsimp only at a x2
            subst a; subst x2
            exact doS_1 S.1 x (by omega) p b y lb
          rw [e]
          exact ⟨⟨h1, h2, h3⟩, h4, h5, h6, h7, c, h9, h10, h11, hd⟩
      · rw [if_neg hh] at hs; cases hs
    · rw [if_neg (by rw [a]; decide), if_pos a] at hs
      by_cases hh : hsB S.1.2.1 q.2.1 = true
      · rw [if_pos hh] at hs
        cases hf : fdS l 2 q.2.1 with
        | some k =>
          rw [hf] at hs
          have hs : (if lg l 2 k = mea n S.2.2.1 q.2.2.1 ∧ lg l 3 k = mea n S.2.2.1 q.2.2.2.1 then some S else none) = some S' := hs
          by_cases e : lg l 2 k = mea n S.2.2.1 q.2.2.1 ∧ lg l 3 k = mea n S.2.2.1 q.2.2.2.1
          · rw [if_pos e] at hs; cases hs; exact same rfl
          · rw [if_neg e] at hs; cases hs
        | none =>
          rw [hf] at hs
          have hs : (if canB S.1 (mea n S.2.2.1 q.2.2.1) (mea n S.2.2.1 q.2.2.2.1) = true ∧ wiF S.1 q.2.1.toNatClampNeg 37 (mea n S.2.2.1 q.2.2.1) = false then some (doS S.1 (2, q.2.1, mea n S.2.2.1 q.2.2.1, mea n S.2.2.1 q.2.2.2.1, q.2.2.2.2.1, q.2.2.2.2.2), S.2) else none) = some S' := hs
          by_cases e : canB S.1 (mea n S.2.2.1 q.2.2.1) (mea n S.2.2.1 q.2.2.2.1) = true ∧ wiF S.1 q.2.1.toNatClampNeg 37 (mea n S.2.2.1 q.2.2.1) = false
          · rw [if_pos e] at hs
            cases hs
            have hx : x ∈ S.1.2.1 := by
              obtain ⟨m, m1, m2⟩ := hsB_iff.mp hh
              rw [x2] at m2
              rw [(nI_eq (by omega) (rOk_lt h4 m m1)).mp m2]; exact m1
            obtain ⟨o1, o2⟩ := can_ok (v := x) h4 p1 p2 e.1
            rw [x2]
            have hok : okS S.1 (2, nI x, mea n S.2.2.1 q.2.2.1, mea n S.2.2.1 q.2.2.2.1, q.2.2.2.2.1, q.2.2.2.2.2) := ⟨x, rfl, by omega, Or.inr (Or.inr (Or.inl ⟨rfl, hx, o1⟩))⟩
            have hR := rOk_do h4 hok
            rw [doS_2 _ _ (by omega)] at hR ⊢
            have hl : ∀ z, z ∈ rmv x S.1.2.1 → z < 2 ^ 31 := fun z hz => rOk_lt h4 z (rmv_mem.mp hz).1
            refine ⟨⟨h1, h2, h3⟩, hR, clR_mov h4 h5 hx o2, fun z hz => ?_, h7, c, h9, h10, h11, fun q' hq' e3 => ?_⟩
            · rcases (insB_mem hl).mp hz with e | e
              · rw [e]; exact h6 x hx
              · exact h6 z (rmv_mem.mp e).1
            · rcases hd q' hq' e3 with w | w
              · exact Or.inl w
              · obtain ⟨m, m1, m2⟩ := hsB_iff.mp w
                refine Or.inr (hsB_iff.mpr ⟨m, (insB_mem hl).mpr ?_, m2⟩)
                by_cases em : m = x
                · exact Or.inl em
                · exact Or.inr (rmv_mem.mpr ⟨m1, em⟩)
          · rw [if_neg e] at hs; cases hs
      · rw [if_neg hh] at hs; cases hs
  · have a0 : ¬ q.1 = 0 := by rw [a]; decide
    rw [if_neg a0, if_neg (by rw [a]; decide), if_neg (by rw [a]; decide)] at hs
    rw [if_neg a0, Nat.zero_add] at h3
    cases hf : fdS l 3 q.2.1 with
    | some k =>
      rw [hf] at hs
      have hs : some S = some S' := hs
      cases hs
      exact ⟨⟨h1, h2, h3⟩, h4, h5, h6, h7, c, h9, h10, h11, hd⟩
    | none =>
      rw [hf] at hs
      have hs : (if (fdS l 1 q.2.1).isSome = true ∨ (fdS l 2 q.2.1).isSome = true ∨ 0 < ctL S.1.2.2.1 q.2.1 S.1.2.1 then none else some (doS S.1 q, S.2)) = some S' := hs
      by_cases e : (fdS l 1 q.2.1).isSome = true ∨ (fdS l 2 q.2.1).isSome = true ∨ 0 < ctL S.1.2.2.1 q.2.1 S.1.2.1
      · rw [if_pos e] at hs; cases hs
      · rw [if_neg e] at hs
        cases hs
        have e2 : doS S.1 q = (S.1.1, rmv x S.1.2.1, S.1.2.2) := by
          obtain ⟨k', nd, p, b, y, lb⟩ := q
          dsimp only at a x2
          subst a; subst x2
          exact doS_3 S.1 x (by omega) p b y lb
        rw [e2]
        have hno : ¬ ∃ z, z ∈ S.1.2.1 ∧ S.1.2.2.1 z = nI x := fun w => e (Or.inr (Or.inr (by rw [x2]; exact ctL_pos.mpr w)))
        refine ⟨⟨h1, h2, h3⟩, rOk_rmv h4 x, fun z hz => ?_, fun z hz => h6 z (rmv_mem.mp hz).1, h7, c, h9, h10, h11, fun q' hq' e3 => ?_⟩
        · obtain ⟨z1, z2⟩ := rmv_mem.mp hz
          rcases h5 z z1 with w | ⟨m, m1, m2⟩
          · exact Or.inl w
          · refine Or.inr ⟨m, rmv_mem.mpr ⟨m1, fun em => ?_⟩, m2⟩
            rw [em] at m2
            exact hno ⟨z, z1, m2⟩
        · rcases hd q' hq' e3 with w | w
          · exact Or.inl w
          · obtain ⟨m, m1, m2⟩ := hsB_iff.mp w
            refine Or.inr (hsB_iff.mpr ⟨m, rmv_mem.mpr ⟨m1, fun em => ?_⟩, m2⟩)
            rw [em] at m2
            exact x3 q' hq' e3 m2
