/-! The order of the nodes in which the script is written: parents first, a twig before the next one -/
/-- the children of y from c on, m numbers -/
def klF (w : Tr) (y : Nat) : Nat → Nat → List Nat
  | 0, _ => []
  | m + 1, c => if w.2.1 c = nI y then c :: klF w y m (c + 1) else klF w y m (c + 1)
theorem klF_s (w : Tr) (y m c : Nat) : klF w y (m + 1) c = if w.2.1 c = nI y then c :: klF w y m (c + 1) else klF w y m (c + 1) := rfl
theorem klF_mem {w : Tr} {y : Nat} : ∀ {m c z : Nat}, z ∈ klF w y m c → c ≤ z ∧ z < c + m ∧ w.2.1 z = nI y
  | 0, c, z, h => by cases h
  | m + 1, c, z, h => by
    rw [klF_s] at h
    by_cases e : w.2.1 c = nI y
    · rw [if_pos e] at h
      rcases List.mem_cons.mp h with q | q
      · rw [q]; exact ⟨Nat.le_refl _, by omega, e⟩
      · obtain ⟨h1, h2, h3⟩ := klF_mem q
        exact ⟨by omega, by omega, h3⟩
    · rw [if_neg e] at h
      obtain ⟨h1, h2, h3⟩ := klF_mem h
      exact ⟨by omega, by omega, h3⟩
theorem klF_in {w : Tr} {y z : Nat} (hz : w.2.1 z = nI y) : ∀ {m c : Nat}, c ≤ z → z < c + m → z ∈ klF w y m c
  | 0, c, h1, h2 => by omega
  | m + 1, c, h1, h2 => by
    rw [klF_s]
    by_cases e : z = c
    · rw [← e, if_pos hz]; exact List.mem_cons_self
    · by_cases e2 : w.2.1 c = nI y
      · rw [if_pos e2]; exact List.mem_cons_of_mem _ (klF_in hz (by omega) (by omega))
      · rw [if_neg e2]; exact klF_in hz (by omega) (by omega)
theorem klF_snoc (w : Tr) (y : Nat) : ∀ (m c : Nat), klF w y (m + 1) c = klF w y m c ++ (if w.2.1 (c + m) = nI y then [c + m] else [])
  | 0, c => by rw [klF_s]; rfl
  | m + 1, c => by
    have e : c + 1 + m = c + (m + 1) := by omega
    rw [klF_s, klF_snoc w y m (c + 1), klF_s, e]
    by_cases h : w.2.1 c = nI y
    · rw [if_pos h, if_pos h]; rfl
    · rw [if_neg h, if_neg h]
theorem klF_pw {w : Tr} {y : Nat} : ∀ (m c : Nat), (klF w y m c).Pairwise (fun a b => a < b)
  | 0, c => List.Pairwise.nil
  | m + 1, c => by
    rw [klF_s]
    by_cases h : w.2.1 c = nI y
    · rw [if_pos h]
      refine List.Pairwise.cons (fun a ha => ?_) (klF_pw m (c + 1))
      have := (klF_mem ha).1
      omega
    · rw [if_neg h]; exact klF_pw m (c + 1)
/-- the children of y among the first u nodes -/
def kl (w : Tr) (u y : Nat) : List Nat := klF w y (u - (y + 1)) (y + 1)
/-- y and all below it, of the first u nodes -/
def pre (w : Tr) (u : Nat) : Nat → Nat → List Nat
  | 0, _ => []
  | f + 1, y => y :: (kl w u y).flatMap (pre w u f)
theorem pre_s (w : Tr) (u f y : Nat) : pre w u (f + 1) y = y :: (kl w u y).flatMap (pre w u f) := rfl
/-- at or below -/
def up (w : Tr) (a b : Nat) : Prop := b = a ∨ bl w a b = true
theorem pm_of {w : Tr} {c y : Nat} (h : w.2.1 c = nI y) (hy : y < c) (hc : c < 2 ^ 31) : pm w c = y := by
  unfold pm
  rw [h, nI_clamp (by omega)]
  omega
theorem kl_pm {w : Tr} {u y c : Nat} (hu : u < 2 ^ 31) (h : c ∈ kl w u y) : y < c ∧ c < u ∧ pm w c = y ∧ w.2.1 c = nI y := by
  obtain ⟨h1, h2, h3⟩ := klF_mem h
  exact ⟨by omega, by omega, pm_of h3 (by omega) (by omega), h3⟩
theorem up_le {w : Tr} {a b : Nat} (h : up w a b) : a ≤ b := by
  rcases h with e | e
  · omega
  · have := bl_lt e; omega
theorem up_pm {w : Tr} {a b : Nat} (h : up w a b) (hn : b ≠ a) : 0 < b ∧ up w a (pm w b) := by
  rcases h with e | e
  · exact absurd e hn
  · have hb := bl_lt e
    refine ⟨by omega, ?_⟩
    rcases (bl_iff (show 0 < b by omega)).mp e with q | q
    · exact Or.inl q
    · exact Or.inr q
theorem up_kid {w : Tr} {y c b : Nat} (hc : 0 < c) (hp : pm w c = y) (h : up w c b) : bl w y b = true := bl_kid b |>.mpr ⟨c, hc, hp, by
  rcases h with e | e
  · exact Or.inl e.symm
  · exact Or.inr e⟩
theorem up_tr {w : Tr} {a b : Nat} (h : up w a b) : ∀ c, up w b c → up w a c := by
  intro c
  induction c using Nat.strongRecOn with
  | ind c ih =>
    intro h'
    by_cases e : c = b
    · rw [e]; exact h
    · obtain ⟨c0, c1⟩ := up_pm h' e
      have := ih (pm w c) (pm_lt w c0) c1
      right
      rcases this with q | q
      · exact (bl_iff c0).mpr (Or.inl q)
      · exact (bl_iff c0).mpr (Or.inr q)
/-- of two nodes above a third one the one is above the other -/
theorem up_lin {w : Tr} {a b : Nat} (hab : a ≤ b) : ∀ p, up w a p → up w b p → up w a b := by
  intro p
  induction p using Nat.strongRecOn with
  | ind p ih =>
    intro h h'
    by_cases e : p = b
    · rw [← e]; exact h
    · obtain ⟨p0, p1⟩ := up_pm h' e
      have : p ≠ a := fun q => by have := up_le h'; omega
      exact ih (pm w p) (pm_lt w p0) (up_pm h this).2 p1
theorem up_sib {w : Tr} {y a b p : Nat} (ha : 0 < a) (hb : 0 < b) (ya : y < a) (yb : y < b) (pa : pm w a = y) (pb : pm w b = y) (h : up w a p) (h' : up w b p) : a = b := by
  have go : ∀ {a b : Nat}, 0 < b → y < a → pm w b = y → up w a b → a = b := by
    intro a b hb ya pb h
    refine Classical.byContradiction fun e => ?_
    obtain ⟨-, q⟩ := up_pm h (fun q => e q.symm)
    rw [pb] at q
    have := up_le q
    omega
  by_cases e : a ≤ b
  · exact go hb ya pb (up_lin e p h h')
  · exact (go ha yb pa (up_lin (by omega) p h' h)).symm
theorem pre_mem {w : Tr} {u : Nat} (hu : u < 2 ^ 31) : ∀ {f y z : Nat}, y < u → z ∈ pre w u f y → up w y z ∧ z < u
  | 0, y, z, hy, h => by cases h
  | f + 1, y, z, hy, h => by
    rw [pre_s] at h
    rcases List.mem_cons.mp h with e | e
    · rw [e]; exact ⟨Or.inl rfl, hy⟩
    · obtain ⟨c, c1, c2⟩ := List.mem_flatMap.mp e
      obtain ⟨k1, k2, k3, -⟩ := kl_pm hu c1
      obtain ⟨r1, r2⟩ := pre_mem hu k2 c2
      exact ⟨Or.inr (up_kid (by omega) k3 r1), r2⟩
theorem fm_congr {α β : Type} {f g : α → List β} : ∀ {l : List α}, (∀ c, c ∈ l → f c = g c) → l.flatMap f = l.flatMap g
  | [], _ => rfl
  | a :: l, h => by
    rw [List.flatMap_cons, List.flatMap_cons, h a List.mem_cons_self, fm_congr (fun c hc => h c (List.mem_cons_of_mem _ hc))]
/-- one more node: its parent gets one more child -/
theorem kl_more {w : Tr} {v y : Nat} (hy : y < v) : kl w (v + 1) y = kl w v y ++ (if w.2.1 v = nI y then [v] else []) := by
  unfold kl
  have e : v + 1 - (y + 1) = (v - (y + 1)) + 1 := by omega
  have e2 : y + 1 + (v - (y + 1)) = v := by omega
  rw [e, klF_snoc, e2]
theorem kl_nil (w : Tr) (v : Nat) : kl w (v + 1) v = [] := by
  unfold kl
  rw [show v + 1 - (v + 1) = 0 by omega]; rfl
theorem pre_same {w : Tr} {v p : Nat} (hv : v < 2 ^ 31) (hp : p < v) (hpv : w.2.1 v = nI p) : ∀ (f y : Nat), y < v → ¬ up w y p → pre w (v + 1) f y = pre w v f y
  | 0, _, _, _ => rfl
  | f + 1, y, hy, hn => by
    have : ¬ w.2.1 v = nI y := fun q => hn (Or.inl ((nI_eq (by omega) (by omega)).mp (hpv.symm.trans q)))
    rw [pre_s, pre_s, kl_more hy, if_neg this, List.append_nil]
    congr 1
    refine fm_congr fun c hc => ?_
    obtain ⟨k1, k2, k3, -⟩ := kl_pm (by omega) hc
    exact pre_same hv hp hpv f c k2 (fun q => hn (Or.inr (up_kid (by omega) k3 q)))
/-- where the new node goes -/
def inL (w : Tr) (p v : Nat) (l l' : List Nat) : Prop := ∃ A z B, l = (A ++ [z]) ++ B ∧ l' = (A ++ [z]) ++ v :: B ∧ up w p z ∧ ∀ u, u ∈ B → ¬ up w p u
theorem pre_kids {w : Tr} {v p y f : Nat} (hv : v < 2 ^ 31) (hp : p < v) (hpv : w.2.1 v = nI p) (ih : ∀ c, y < c → c < v → up w c p → inL w p v (pre w v f c) (pre w (v + 1) f c)) : ∀ l : List Nat, (∀ c, c ∈ l → y < c ∧ c < v ∧ pm w c = y) → l.Pairwise (fun a b => a < b) → (∃ c, c ∈ l ∧ up w c p) → inL w p v (l.flatMap (pre w v f)) (l.flatMap (pre w (v + 1) f))
  | [], _, _, ⟨c, h, _⟩ => by cases h
  | a :: l, hl, hs, hex => by
    obtain ⟨a1, a2, a3⟩ := hl a List.mem_cons_self
    have hs' := List.pairwise_cons.mp hs
    rw [List.flatMap_cons, List.flatMap_cons]
    by_cases h : up w a p
    · obtain ⟨A, z, B, e1, e2, e3, e4⟩ := ih a a1 a2 h
      have hr : ∀ c, c ∈ l → y < c ∧ c < v ∧ pm w c = y ∧ a < c := fun c hc => by
        obtain ⟨c1, c2, c3⟩ := hl c (List.mem_cons_of_mem _ hc)
        exact ⟨c1, c2, c3, hs'.1 c hc⟩
      have hc : l.flatMap (pre w (v + 1) f) = l.flatMap (pre w v f) := fm_congr fun c hc => by
        obtain ⟨c1, c2, c3, c4⟩ := hr c hc
        refine pre_same hv hp hpv f c c2 fun q => ?_
        have := up_sib (show 0 < a by omega) (show 0 < c by omega) a1 c1 a3 c3 h q
        omega
      refine ⟨A, z, B ++ l.flatMap (pre w v f), ?_, ?_, e3, fun u hu => ?_⟩
      · rw [e1, List.append_assoc]
      · rw [e2, hc, List.append_assoc]; rfl
      · rcases List.mem_append.mp hu with q | q
        · exact e4 u q
        · obtain ⟨c, c1, c2⟩ := List.mem_flatMap.mp q
          obtain ⟨k1, k2, k3, k4⟩ := hr c c1
          obtain ⟨r1, -⟩ := pre_mem (by omega) k2 c2
          intro hpu
          have := up_sib (show 0 < a by omega) (show 0 < c by omega) a1 k1 a3 k3 (up_tr h u hpu) r1
          omega
    · rw [pre_same hv hp hpv f a a2 h]
      have hex' : ∃ c, c ∈ l ∧ up w c p := by
        obtain ⟨c, c1, c2⟩ := hex
        rcases List.mem_cons.mp c1 with q | q
        · rw [q] at c2; exact absurd c2 h
        · exact ⟨c, q, c2⟩
      obtain ⟨A, z, B, e1, e2, e3, e4⟩ := pre_kids hv hp hpv ih l (fun c hc => hl c (List.mem_cons_of_mem _ hc)) hs'.2 hex'
      refine ⟨pre w v f a ++ A, z, B, ?_, ?_, e3, e4⟩
      · rw [e1, List.append_assoc, List.append_assoc, List.append_assoc]
      · rw [e2, List.append_assoc, List.append_assoc, List.append_assoc]
theorem pre_ins {w : Tr} {v p : Nat} (hv : v < 2 ^ 31) (hp : p < v) (hpv : w.2.1 v = nI p) (hk : ∀ c, 0 < c → c < v → w.2.1 c = nI (pm w c)) : ∀ (f y : Nat), y < v → v + 1 - y ≤ f → up w y p → inL w p v (pre w v f y) (pre w (v + 1) f y)
  | 0, y, hy, hf, hu => by omega
  | f + 1, y, hy, hf, hu => by
    by_cases e : p = y
    · subst e
      obtain ⟨g, hg⟩ : ∃ g, f = g + 1 := ⟨f - 1, by omega⟩
      have h1 : pre w (v + 1) f v = [v] := by rw [hg, pre_s, kl_nil]; rfl
      have h2 : (kl w v p).flatMap (pre w (v + 1) f) = (kl w v p).flatMap (pre w v f) := fm_congr fun c hc => by
        obtain ⟨k1, k2, k3, -⟩ := kl_pm (by omega) hc
        exact pre_same hv hp hpv f c k2 (fun q => by have := up_le q; omega)
      have h3 : pre w (v + 1) (f + 1) p = pre w v (f + 1) p ++ [v] := by
        rw [pre_s, pre_s, kl_more hp, if_pos hpv, List.flatMap_append, h2, List.flatMap_cons, h1]; rfl
      rcases List.eq_nil_or_concat (pre w v (f + 1) p) with q | ⟨A, z, q⟩
      · rw [pre_s] at q; cases q
      · have q : pre w v (f + 1) p = A ++ [z] := by rw [q, List.concat_eq_append]
        refine ⟨A, z, [], by rw [q, List.append_nil], by rw [h3, q], ?_, fun u hu => by cases hu⟩
        have hz : z ∈ pre w v (f + 1) p := by rw [q]; exact List.mem_append_right _ List.mem_cons_self
        exact (pre_mem (by omega) hp hz).1
    · have hb : bl w y p = true := by
        rcases hu with q | q
        · exact absurd q e
        · exact q
      obtain ⟨c, c1, c2, c3⟩ := (bl_kid p).mp hb
      have c4 : up w c p := by
        rcases c3 with q | q
        · exact Or.inl q.symm
        · exact Or.inr q
      have c5 := up_le c4
      have yc : y < c := by rw [← c2]; exact pm_lt w c1
      have hvy : ¬ w.2.1 v = nI y := fun q => e ((nI_eq (by omega) (by omega)).mp (hpv.symm.trans q))
      have hck : c ∈ kl w v y := by
        refine klF_in ?_ (by omega) (by omega)
        rw [hk c c1 (by omega), c2]
      obtain ⟨A, z, B, e1, e2, e3, e4⟩   := pre_kids (y := y) hv hp hpv (fun c' d1 d2 d3 => pre_ins hv hp hpv hk f c' d2 (by omega) d3) (kl w v y) (fun c' hc' => by
        obtain ⟨k1, k2, k3, -⟩ := kl_pm (by omega) hc'
        exact ⟨k1, k2, k3⟩) (klF_pw _ _) ⟨c, hck, c4⟩
      refine ⟨y :: A, z, B, ?_, ?_, e3, e4⟩
      · rw [pre_s, e1]; rfl
      · rw [pre_s, kl_more hy, if_neg hvy, List.append_nil, e2]; rfl
/-! The script, as the class writes it and as the reference does -/
/-- all nodes of the first v, in the order of the script -/
def rowL (w : Tr) (v : Nat) : List Nat := pre w v 13 0
theorem rowL_1 (w : Tr) : rowL w 1 = [0] := by
  unfold rowL
  rw [pre_s, kl_nil]; rfl
theorem rowL_s {w : Tr} (hw : tW w) {v : Nat} (h0 : 0 < v) (hv : v < w.1) : inL w (pm w v) v (rowL w v) (rowL w (v + 1)) := by
  have h12 := hw.1
  have hp := pm_lt w h0
  refine pre_ins (by omega) hp (pm_eq hw h0 hv) (fun c c0 c1 => pm_eq hw c0 (by omega)) 13 0 h0 (by omega) ?_
  -- all nodes are below the root
  have : ∀ z, up w 0 z := by
    intro z
    induction z using Nat.strongRecOn with
    | ind z ih =>
      by_cases e : z = 0
      · exact Or.inl e
      · have z0 : 0 < z := by omega
        right
        rcases ih (pm w z) (pm_lt w z0) with q | q
        · exact (bl_iff z0).mpr (Or.inl q)
        · exact (bl_iff z0).mpr (Or.inr q)
  exact this _
theorem rowL_len {w : Tr} (hw : tW w) : ∀ {v : Nat}, 0 < v → v ≤ w.1 → (rowL w v).length = v
  | 1, _, _ => by rw [rowL_1]; rfl
  | v + 2, _, h => by
    obtain ⟨A, z, B, e1, e2, -, -⟩ := rowL_s hw (show 0 < v + 1 by omega) (by omega)
    have := rowL_len hw (show 0 < v + 1 by omega) (by omega)
    rw [e1] at this
    rw [e2]
    simp only [List.length_append, List.length_cons, List.length_nil] at this ⊢
    omega
theorem rowL_cnt {w : Tr} (hw : tW w) (P : Nat → Bool) : ∀ {v : Nat}, 0 < v → v ≤ w.1 → (rowL w v).countP P = lz P v
  | 1, _, _ => by
    rw [rowL_1, List.countP_cons, List.countP_nil]
    rfl
  | v + 2, _, h => by
    obtain ⟨A, z, B, e1, e2, -, -⟩ := rowL_s hw (show 0 < v + 1 by omega) (by omega)
    have := rowL_cnt hw P (show 0 < v + 1 by omega) (by omega)
    rw [e1] at this
    rw [e2, lz_s, ← this]
    simp only [List.countP_append, List.countP_cons, List.countP_nil]
    omega
theorem rowL_mem {w : Tr} (hw : tW w) {v z : Nat} (h0 : 0 < v) (hv : v ≤ w.1) (h : z ∈ rowL w v) : z < v := (pre_mem (by have := hw.1; omega) h0 h).2
/-- a step: kind, node, parent, the one before, type, label -/
abbrev Sp : Type := Int32 × Int32 × Int32 × Int32 × Int32 × Int32
/-- the node that stands for one of the other tree -/
def cpO (t : Tr) (i : Nat) : Option Nat → Int32
  | none => nI (t.1 + i)
  | some x => nI x
/-- the steps for it -/
def stO (t w : Tr) (X : Nat → Bool) (y : Nat) (u b : Int32) (i : Nat) : Option Nat → List Sp
  | none => [(0, nI (t.1 + i), u, b, w.2.2.1 y, w.2.2.2 y)]
  | some x => (if t.2.2.2 x = w.2.2.2 y then [] else [(1, nI x, -1, -1, -1, w.2.2.2 y)]) ++ (if X x = true then [] else [(2, nI x, u, b, -1, 0)])
def inO : Option Nat → Nat
  | none => 1
  | some _ => 0
theorem cpO_n (t : Tr) (i : Nat) : cpO t i none = nI (t.1 + i) := rfl
theorem cpO_s (t : Tr) (i x : Nat) : cpO t i (some x) = nI x := rfl
theorem stO_n (t w : Tr) (X : Nat → Bool) (y : Nat) (u b : Int32) (i : Nat) : stO t w X y u b i none = [(0, nI (t.1 + i), u, b, w.2.2.1 y, w.2.2.2 y)] := rfl
theorem stO_s (t w : Tr) (X : Nat → Bool) (y : Nat) (u b : Int32) (i x : Nat) : stO t w X y u b i (some x) = (if t.2.2.2 x = w.2.2.2 y then [] else [(1, nI x, -1, -1, -1, w.2.2.2 y)]) ++ (if X x = true then [] else [(2, nI x, u, b, -1, 0)]) := rfl
theorem inO_n : inO none = 1 := rfl
theorem inO_s (x : Nat) : inO (some x) = 0 := rfl
theorem stO_len (t w : Tr) (X : Nat → Bool) (y : Nat) (u b : Int32) (i : Nat) (o : Option Nat) : (stO t w X y u b i o).length ≤ 1 + (if o.isSome = true then 1 else 0) := by
  cases o with
  | none => rw [stO_n]; exact Nat.le_refl _
  | some x =>
    rw [stO_s, List.length_append, if_pos (show (some x).isSome = true from rfl)]
    by_cases h1 : t.2.2.2 x = w.2.2.2 y <;> by_cases h2 : X x = true <;> simp [h1, h2]
abbrev Zs : Type := List Sp × Nat
/-- the class: the children, one after another -/
def cwk (t : Tr) (M : Pr) (go : Nat → Int32 → Zs → Zs) : List Nat → Int32 → Zs → Zs
  | [], _, Z => Z
  | c :: l, b, Z => cwk t M go l (cpO t Z.2 (M.2 c)) (go c b Z)
def cwN (t w : Tr) (M : Pr) (X : Nat → Bool) (y : Nat) (p b : Int32) (Z : Zs) : Zs := (Z.1 ++ stO t w X y p b Z.2 (M.2 y), Z.2 + inO (M.2 y))
def cw (t w : Tr) (M : Pr) (X : Nat → Bool) : Nat → Nat → Int32 → Int32 → Zs → Zs
  | 0, _, _, _, Z => Z
  | f + 1, y, p, b, Z => cwk t M (fun c b' Z' => cw t w M X f c (cpO t Z.2 (M.2 y)) b' Z') (kl w w.1 y) (-1) (cwN t w M X y p b Z)
theorem cw_s (t w : Tr) (M : Pr) (X : Nat → Bool) (f y : Nat) (p b : Int32) (Z : Zs) : cw t w M X (f + 1) y p b Z = cwk t M (fun c b' Z' => cw t w M X f c (cpO t Z.2 (M.2 y)) b' Z') (kl w w.1 y) (-1) (cwN t w M X y p b Z) := rfl
theorem cwk_c (t : Tr) (M : Pr) (go : Nat → Int32 → Zs → Zs) (c : Nat) (l : List Nat) (b : Int32) (Z : Zs) : cwk t M go (c :: l) b Z = cwk t M go l (cpO t Z.2 (M.2 c)) (go c b Z) := rfl
theorem cwk_len {t : Tr} {M : Pr} {go : Nat → Int32 → Zs → Zs} (h : ∀ c b Z, Z.1.length ≤ (go c b Z).1.length) : ∀ (l : List Nat) (b : Int32) (Z : Zs), Z.1.length ≤ (cwk t M go l b Z).1.length
  | [], _, _ => Nat.le_refl _
  | c :: l, b, Z => by
    rw [cwk_c]
    exact Nat.le_trans (h c b Z) (cwk_len h l _ _)
theorem cwN_len (t w : Tr) (M : Pr) (X : Nat → Bool) (y : Nat) (p b : Int32) (Z : Zs) : Z.1.length ≤ (cwN t w M X y p b Z).1.length := by
  unfold cwN
  rw [List.length_append]; omega
theorem cw_len (t w : Tr) (M : Pr) (X : Nat → Bool) : ∀ (f y : Nat) (p b : Int32) (Z : Zs), Z.1.length ≤ (cw t w M X f y p b Z).1.length
  | 0, _, _, _, _ => Nat.le_refl _
  | f + 1, y, p, b, Z => by
    rw [cw_s]
    exact Nat.le_trans (cwN_len t w M X y p b Z) (cwk_len (fun c b' Z' => cw_len t w M X f c _ b' Z') _ _ _)
/-- the reference: what stands for each, found again -/
def lsN (w : Tr) (sd : Nat → Int32) (a : Int32) : Nat → Int32
  | 0 => -1
  | c + 1 => if w.2.1 c = a then sd c else lsN w sd a c
theorem lsN_s (w : Tr) (sd : Nat → Int32) (a : Int32) (c : Nat) : lsN w sd a (c + 1) = if w.2.1 c = a then sd c else lsN w sd a c := rfl
theorem lsN_congr {w : Tr} {sd sd' : Nat → Int32} {a : Int32} : ∀ c, (∀ z, z < c → sd z = sd' z) → lsN w sd a c = lsN w sd' a c
  | 0, _ => rfl
  | c + 1, h => by rw [lsN_s, lsN_s, h c (by omega), lsN_congr c (fun z hz => h z (by omega))]
def unN (w : Tr) (sd : Nat → Int32) (y : Nat) : Int32 := if y = 0 then -1 else sd (pm w y)
abbrev Zt : Type := List Sp × Nat × (Nat → Int32)
def rf (t w : Tr) (M : Pr) (X : Nat → Bool) (Z : Zt) (y : Nat) : Zt := (Z.1 ++ stO t w X y (unN w Z.2.2 y) (lsN w Z.2.2 (w.2.1 y) y) Z.2.1 (M.2 y), Z.2.1 + inO (M.2 y), upd Z.2.2 y (cpO t Z.2.1 (M.2 y)))
theorem rf_o {t w : Tr} {M : Pr} {X : Nat → Bool} {z : Nat} : ∀ (l : List Nat) (Z : Zt), z ∉ l → (l.foldl (rf t w M X) Z).2.2 z = Z.2.2 z
  | [], _, _ => rfl
  | y :: l, Z, h => by
    rw [List.foldl_cons, rf_o l _ (fun q => h (List.mem_cons_of_mem _ q))]
    exact if_neg (fun q => h (by rw [q]; exact List.mem_cons_self))
theorem pre_hd {w : Tr} (hw : tW w) {f y : Nat} : y ∉ (kl w w.1 y).flatMap (pre w w.1 f) := by
  have h12 := hw.1
  intro q
  obtain ⟨c, c1, c2⟩ := List.mem_flatMap.mp q
  obtain ⟨k1, k2, k3, -⟩ := kl_pm (by omega) c1
  have := up_le (pre_mem (by omega) k2 c2).1
  omega
theorem lsN_no {w : Tr} (hw : tW w) {sd : Nat → Int32} {y : Nat} (hy : y < w.1) : ∀ c, c ≤ y + 1 → lsN w sd (nI y) c = -1
  | 0, _ => rfl
  | c + 1, h => by
    have h12 := hw.1
    rw [lsN_s, if_neg, lsN_no hw hy c (by omega)]
    intro q
    rcases hw.2 c (by omega) with ⟨-, e⟩ | ⟨m, hm, e⟩
    · exact nI_m1 y (by omega) (q.symm.trans e)
    · have := (nI_eq (by omega) (by omega)).mp (q.symm.trans e)
      omega
theorem rf_cw {t w : Tr} {M : Pr} {X : Nat → Bool} (hw : tW w) : ∀ (f y : Nat) (Z : Zt), y < w.1 → w.1 - y ≤ f → ((pre w w.1 f y).foldl (rf t w M X) Z).1 = (cw t w M X f y (unN w Z.2.2 y) (lsN w Z.2.2 (w.2.1 y) y) (Z.1, Z.2.1)).1 ∧ ((pre w w.1 f y).foldl (rf t w M X) Z).2.1 = (cw t w M X f y (unN w Z.2.2 y) (lsN w Z.2.2 (w.2.1 y) y) (Z.1, Z.2.1)).2 ∧ ((pre w w.1 f y).foldl (rf t w M X) Z).2.2 y = cpO t Z.2.1 (M.2 y)
  | 0, y, Z, hy, hf => by omega
  | f + 1, y, Z, hy, hf => by
    have h12 := hw.1
    rw [pre_s, List.foldl_cons, cw_s]
    have hin : ∀ (m c : Nat) (b : Int32) (Y : Zt), y < c → c + m = w.1 → Y.2.2 y = cpO t Z.2.1 (M.2 y) → lsN w Y.2.2 (nI y) c = b → (((klF w y m c).flatMap (pre w w.1 f)).foldl (rf t w M X) Y).1 = (cwk t M (fun c b' Z' => cw t w M X f c (cpO t Z.2.1 (M.2 y)) b' Z') (klF w y m c) b (Y.1, Y.2.1)).1 ∧ (((klF w y m c).flatMap (pre w w.1 f)).foldl (rf t w M X) Y).2.1 = (cwk t M (fun c b' Z' => cw t w M X f c (cpO t Z.2.1 (M.2 y)) b' Z') (klF w y m c) b (Y.1, Y.2.1)).2 := by
      intro m
      induction m with
      | zero => intro c b Y _ _ _ _; exact ⟨rfl, rfl⟩
      | succ m ih =>
        intro c b Y yc cm e1 e2
        by_cases h : w.2.1 c = nI y
        · have hc0 : ¬ c = 0 := by omega
          rw [klF_s, if_pos h, List.flatMap_cons, List.foldl_append, cwk_c]
          have hpm : pm w c = y := pm_of h yc (by omega)
          obtain ⟨r1, r2, r3⟩ := rf_cw hw f c Y (by omega) (by omega)
          have u1 : unN w Y.2.2 c = cpO t Z.2.1 (M.2 y) := by unfold unN; rw [if_neg hc0, hpm, e1]
          have u2 : lsN w Y.2.2 (w.2.1 c) c = b := by rw [h, e2]
          rw [u1, u2] at r1 r2
          have hny : y ∉ pre w w.1 f c := fun q => by
            have := up_le (pre_mem (by omega) (by omega) q).1
            omega
          have := ih (c + 1) (cpO t Y.2.1 (M.2 c)) ((pre w w.1 f c).foldl (rf t w M X) Y) (by omega) (by omega) (by rw [rf_o _ _ hny]; exact e1) (by rw [lsN_s, if_pos h]; exact r3)
          rw [r1, r2] at this
          exact this
        · rw [klF_s, if_neg h]
          exact ih (c + 1) b Y (by omega) (by omega) e1 (by rw [lsN_s, if_neg h]; exact e2)
    have e0 : (rf t w M X Z y).2.2 y = cpO t Z.2.1 (M.2 y) := if_pos rfl
    refine ⟨(hin _ (y + 1) (-1) (rf t w M X Z y) (by omega) (by omega) e0 (lsN_no hw hy _ (Nat.le_refl _))).1, (hin _ (y + 1) (-1) (rf t w M X Z y) (by omega) (by omega) e0 (lsN_no hw hy _ (Nat.le_refl _))).2, ?_⟩
    rw [rf_o _ _ (pre_hd hw)]
    exact e0
/-- the steps that delete -/
def dlO (x : Nat) : Option Nat → List Sp
  | none => [(3, nI x, -1, -1, -1, 0)]
  | some _ => []
theorem dlO_n (x : Nat) : dlO x none = [(3, nI x, -1, -1, -1, 0)] := rfl
theorem dlO_s (x y : Nat) : dlO x (some y) = [] := rfl
def dlF (M : Pr) : Nat → List Sp
  | 0 => []
  | n + 1 => dlO n (M.1 n) ++ dlF M n
theorem dlF_s (M : Pr) (n : Nat) : dlF M (n + 1) = dlO n (M.1 n) ++ dlF M n := rfl
/-- the script -/
def scr (t w : Tr) (M : Pr) (X : Nat → Bool) : List Sp := (cw t w M X 13 0 (-1) (-1) ([], 0)).1 ++ dlF M t.1
/-- how many INSERTs -/
def scI (t w : Tr) (M : Pr) (X : Nat → Bool) : Nat := (cw t w M X 13 0 (-1) (-1) ([], 0)).2
/-- partners and owners are each other's -/
def mI (M : Pr) : Prop := ∀ x y, M.1 x = some y ↔ M.2 y = some x
def isO (μ : Nat → Option Nat) (x : Nat) : Bool := (μ x).isSome
theorem dlF_len (M : Pr) : ∀ n, (dlF M n).length + lz (isO M.1) n = n
  | 0 => rfl
  | n + 1 => by
    have := dlF_len M n
    rw [dlF_s, List.length_append, lz_s]
    unfold isO at this ⊢
    cases h : M.1 n with
    | none => rw [dlO_n, if_neg (by decide)]; simp only [List.length_cons, List.length_nil]; omega
    | some y => rw [dlO_s, if_pos (show (some y).isSome = true from rfl)]; simp only [List.length_nil]; omega
theorem lz_one {P : Nat → Bool} {x : Nat} (h : ∀ z, P z = true ↔ z = x) : ∀ n, lz P n = if x < n then 1 else 0
  | 0 => rfl
  | n + 1 => by
    rw [lz_s, lz_one h n]
    by_cases e : n = x
    · rw [if_pos ((h n).mpr e), if_neg (by omega), if_pos (by omega)]
    · rw [if_neg (fun q => e ((h n).mp q))]
      by_cases e2 : x < n
      · rw [if_pos e2, if_pos (by omega)]
      · rw [if_neg e2, if_neg (by omega)]
theorem lz_zero {P : Nat → Bool} (h : ∀ z, P z = false) : ∀ n, lz P n = 0
  | 0 => rfl
  | n + 1 => by rw [lz_s, lz_zero h n, if_neg (by rw [h n]; decide)]
theorem lz_add {P R S : Nat → Bool} (h : ∀ z, (if P z = true then 1 else 0) + (if R z = true then 1 else 0) = (if S z = true then 1 else 0)) : ∀ n, lz P n + lz R n = lz S n
  | 0 => rfl
  | n + 1 => by
    have := lz_add h n
    have := h n
    rw [lz_s, lz_s, lz_s]; omega
/-- has a partner below u -/
def ptU (M : Pr) (u x : Nat) : Bool := match M.1 x with
  | none => false
  | some y => decide (y < u)
theorem ptU_iff (M : Pr) (u x : Nat) : ptU M u x = true ↔ ∃ y, M.1 x = some y ∧ y < u := by
  unfold ptU
  cases M.1 x with
  | none => exact ⟨fun q => (by cases q), fun ⟨y, q, _⟩ => (by cases q)⟩
  | some y => exact ⟨fun q => ⟨y, rfl, of_decide_eq_true q⟩, fun ⟨y', q, h⟩ => decide_eq_true (by cases q; exact h)⟩
theorem lz_pt {M : Pr} {n : Nat} (hI : mI M) (hn : ∀ y x, M.2 y = some x → x < n) : ∀ u, lz (ptU M u) n = lz (isO M.2) u
  | 0 => lz_zero (fun z => by
      cases h : ptU M 0 z with
      | false => rfl
      | true => obtain ⟨y, -, q⟩ := (ptU_iff M 0 z).mp h; omega) n
  | u + 1 => by
    rw [lz_s, ← lz_pt hI hn u]
    cases h : M.2 u with
    | none =>
      have : ptU M (u + 1) = ptU M u := by
        funext z
        rw [Bool.eq_iff_iff, ptU_iff, ptU_iff]
        constructor
        · rintro ⟨y, y1, y2⟩
          refine ⟨y, y1, ?_⟩
          by_cases e : y = u
          · rw [e] at y1
            rw [(hI z u).mp y1] at h; cases h
          · omega
        · rintro ⟨y, y1, y2⟩
          exact ⟨y, y1, by omega⟩
      rw [this]
      unfold isO
      rw [h, if_neg (by decide)]; omega
    | some x =>
      have e1 := lz_one (P := fun z => decide (z = x)) (x := x) (fun z => decide_eq_true_iff) n
      rw [if_pos (hn u x h)] at e1
      have := lz_add (P := ptU M u) (R := fun z => decide (z = x)) (S := ptU M (u + 1)) (fun z => by
        by_cases e : z = x
        · subst e
          have hz := (hI z u).mpr h
          have a1 : ¬ ptU M u z = true := fun q => by
            obtain ⟨y, y1, y2⟩ := (ptU_iff M u z).mp q
            rw [hz] at y1; cases y1; omega
          have a2 : ptU M (u + 1) z = true := (ptU_iff M (u + 1) z).mpr ⟨u, hz, by omega⟩
          rw [if_neg a1, if_pos (decide_eq_true rfl), if_pos a2]
        · rw [if_neg (fun q => e (of_decide_eq_true q))]
          have : ptU M (u + 1) z = ptU M u z := by
            rw [Bool.eq_iff_iff, ptU_iff, ptU_iff]
            constructor
            · rintro ⟨y, y1, y2⟩
              refine ⟨y, y1, ?_⟩
              by_cases e3 : y = u
              · rw [e3] at y1
                have q := (hI z u).mp y1
                rw [h] at q; cases q; exact absurd rfl e
              · omega
            · rintro ⟨y, y1, y2⟩
              exact ⟨y, y1, by omega⟩
          rw [this, Nat.add_zero]) n
      unfold isO at this ⊢
      rw [h, if_pos (show (some x).isSome = true from rfl)]; omega
theorem rf_len {t w : Tr} {M : Pr} {X : Nat → Bool} : ∀ (l : List Nat) (Z : Zt), (l.foldl (rf t w M X) Z).1.length ≤ Z.1.length + l.length + l.countP (isO M.2) ∧ (l.foldl (rf t w M X) Z).2.1 ≤ Z.2.1 + l.length
  | [], Z => ⟨Nat.le_refl _, Nat.le_refl _⟩
  | y :: l, Z => by
    obtain ⟨h1, h2⟩ := rf_len (t := t) (w := w) (M := M) (X := X) l (rf t w M X Z y)
    rw [List.foldl_cons, List.countP_cons, List.length_cons]
    have e := stO_len t w X y (unN w Z.2.2 y) (lsN w Z.2.2 (w.2.1 y) y) Z.2.1 (M.2 y)
    have e1 : (rf t w M X Z y).1.length = Z.1.length + (stO t w X y (unN w Z.2.2 y) (lsN w Z.2.2 (w.2.1 y) y) Z.2.1 (M.2 y)).length := List.length_append
    have e2 : (rf t w M X Z y).2.1 ≤ Z.2.1 + 1 := by
      show Z.2.1 + inO (M.2 y) ≤ Z.2.1 + 1
      cases M.2 y with
      | none => exact Nat.le_refl _
      | some x => rw [inO_s]; omega
    unfold isO at h1 ⊢
    constructor <;> omega
/-- no more than twenty-four steps, no more than twelve INSERTs -/
theorem scr_len {t w : Tr} {M : Pr} {X : Nat → Bool} (hw : tW t) (hw' : tW w) (hu : 0 < w.1) (hI : mI M) (hp : pW t w M) : (scr t w M X).length ≤ 24 ∧ scI t w M X ≤ w.1 := by
  have h12 := hw.1
  have h12' := hw'.1
  obtain ⟨a1, a2, -⟩ := rf_cw (t := t) (M := M) (X := X) hw' 13 0 ([], 0, fun _ => 0) hu (by omega)
  obtain ⟨b1, b2⟩ := rf_len (t := t) (w := w) (M := M) (X := X) (pre w w.1 13 0) ([], 0, fun _ => 0)
  have c1 : (pre w w.1 13 0).length = w.1 := rowL_len hw' hu (Nat.le_refl _)
  have c2 : (pre w w.1 13 0).countP (isO M.2) = lz (isO M.2) w.1 := rowL_cnt hw' _ hu (Nat.le_refl _)
  have c3 := dlF_len M t.1
  have c4 := lz_pt (n := t.1) hI (fun y x h => (hp.2 y x h).2) w.1
  have c5 : ptU M w.1 = isO M.1 := by
    funext z
    rw [Bool.eq_iff_iff, ptU_iff]
    unfold isO
    constructor
    · rintro ⟨y, y1, -⟩; rw [y1]; rfl
    · intro q
      obtain ⟨y, hy⟩ := Option.isSome_iff_exists.mp q
      exact ⟨y, hy, (hp.1 z y hy).2⟩
  rw [c5] at c4
  have e0 : lsN w (fun _ => (0 : Int32)) (w.2.1 0) 0 = -1 := rfl
  have e1 : unN w (fun _ => (0 : Int32)) 0 = -1 := if_pos rfl
  rw [e0, e1] at a1 a2
  unfold scr scI
  rw [← a1, ← a2, List.length_append]
  have z1 : ([] : List Sp).length = 0 := rfl
  constructor
  · dsimp only at b1; omega
  · dsimp only at b2; omega
theorem cwk_mono {t : Tr} {M : Pr} {go : Nat → Int32 → Zs → Zs} (h : ∀ c b Z, Z.2 ≤ (go c b Z).2) : ∀ (l : List Nat) (b : Int32) (Z : Zs), Z.2 ≤ (cwk t M go l b Z).2
  | [], _, _ => Nat.le_refl _
  | c :: l, b, Z => by
    rw [cwk_c]
    exact Nat.le_trans (h c b Z) (cwk_mono h l _ _)
theorem cw_mono (t w : Tr) (M : Pr) (X : Nat → Bool) : ∀ (f y : Nat) (p b : Int32) (Z : Zs), Z.2 ≤ (cw t w M X f y p b Z).2
  | 0, _, _, _, _ => Nat.le_refl _
  | f + 1, y, p, b, Z => by
    rw [cw_s]
    exact Nat.le_trans (Nat.le_add_right Z.2 (inO (M.2 y))) (cwk_mono (fun c b' Z' => cw_mono t w M X f c _ b' Z') _ _ (cwN t w M X y p b Z))
