/-! A result: the nodes in line, and what the steps do to it -/
/-- how many names, the line, parents, types, labels -/
abbrev Rs : Type := Nat × List Nat × (Nat → Int32) × (Nat → Int32) × (Nat → Int32)
/-- v put behind m -/
def insA (m v : Nat) : List Nat → List Nat
  | [] => []
  | z :: r => if z = m then z :: v :: r else z :: insA m v r
def hsB (l : List Nat) (b : Int32) : Bool := l.any (fun m => decide (b = nI m))
theorem hsB_iff {l : List Nat} {b : Int32} : hsB l b = true ↔ ∃ m, m ∈ l ∧ b = nI m := by
  unfold hsB
  rw [List.any_eq_true]
  exact ⟨fun ⟨m, h1, h2⟩ => ⟨m, h1, of_decide_eq_true h2⟩, fun ⟨m, h1, h2⟩ => ⟨m, h1, decide_eq_true h2⟩⟩
/-- v put behind b, or before all -/
def insB (l : List Nat) (b : Int32) (v : Nat) : List Nat := if hsB l b = true then insA b.toNatClampNeg v l else v :: l
def rmv (v : Nat) (l : List Nat) : List Nat := l.filter (fun z => decide (z ≠ v))
theorem rmv_mem {v z : Nat} {l : List Nat} : z ∈ rmv v l ↔ z ∈ l ∧ z ≠ v := by
  unfold rmv
  rw [List.mem_filter, decide_eq_true_iff]
theorem rmv_nd {v : Nat} {l : List Nat} (h : l.Nodup) : (rmv v l).Nodup := List.Nodup.sublist List.filter_sublist h
theorem rmv_no {v : Nat} {l : List Nat} (h : v ∉ l) : rmv v l = l := by
  unfold rmv
  exact List.filter_eq_self.mpr fun z hz => decide_eq_true fun e => h (by rw [← e]; exact hz)
theorem insA_split {m v : Nat} : ∀ {l : List Nat}, m ∈ l → ∃ A B, l = A ++ m :: B ∧ m ∉ A ∧ insA m v l = A ++ m :: v :: B
  | [], h => by cases h
  | z :: r, h => by
    by_cases e : z = m
    · refine ⟨[], r, by rw [e]; rfl, fun q => (by cases q), ?_⟩
      unfold insA
      rw [if_pos e, e]; rfl
    · have hr : m ∈ r := by
        rcases List.mem_cons.mp h with q | q
        · exact absurd q.symm e
        · exact q
      obtain ⟨A, B, e1, e2, e3⟩ := insA_split (v := v) hr
      refine ⟨z :: A, B, by rw [e1]; rfl, fun q => ?_, ?_⟩
      · rcases List.mem_cons.mp q with q | q
        · exact e q.symm
        · exact e2 q
      · unfold insA
        rw [if_neg e, e3]; rfl
/-- where it goes: at the front, or behind m -/
theorem insB_cases {l : List Nat} {b : Int32} {v : Nat} (hl : ∀ z, z ∈ l → z < 2 ^ 31) : (hsB l b = false ∧ insB l b v = v :: l) ∨ ∃ m A B, hsB l b = true ∧ b = nI m ∧ l = A ++ m :: B ∧ m ∉ A ∧ insB l b v = A ++ m :: v :: B := by
  unfold insB
  cases h : hsB l b with
  | false => exact Or.inl ⟨rfl, if_neg (by decide)⟩
  | true =>
    obtain ⟨m, h1, h2⟩ := hsB_iff.mp h
    have e : b.toNatClampNeg = m := by rw [h2]; exact nI_clamp (hl m h1)
    obtain ⟨A, B, e1, e2, e3⟩ := insA_split (v := v) h1
    exact Or.inr ⟨m, A, B, rfl, h2, e1, e2, by rw [if_pos rfl, e]; exact e3⟩
theorem insB_mem {l : List Nat} {b : Int32} {v z : Nat} (hl : ∀ z, z ∈ l → z < 2 ^ 31) : z ∈ insB l b v ↔ z = v ∨ z ∈ l := by
  rcases insB_cases (b := b) (v := v) hl with ⟨-, e⟩ | ⟨m, A, B, -, -, e1, -, e2⟩
  · rw [e]; exact List.mem_cons
  · rw [e2, e1]
    simp only [List.mem_append, List.mem_cons]
    constructor
    · rintro (q | q | q | q)
      · exact Or.inr (Or.inl q)
      · exact Or.inr (Or.inr (Or.inl q))
      · exact Or.inl q
      · exact Or.inr (Or.inr (Or.inr q))
    · rintro (q | q | q | q)
      · exact Or.inr (Or.inr (Or.inl q))
      · exact Or.inl q
      · exact Or.inr (Or.inl q)
      · exact Or.inr (Or.inr (Or.inr q))
theorem insB_len {l : List Nat} {b : Int32} {v : Nat} (hl : ∀ z, z ∈ l → z < 2 ^ 31) : (insB l b v).length = l.length + 1 := by
  rcases insB_cases (b := b) (v := v) hl with ⟨-, e⟩ | ⟨m, A, B, -, -, e1, -, e2⟩
  · rw [e]; rfl
  · rw [e2, e1]
    simp only [List.length_append, List.length_cons]
    omega
theorem insB_nd {l : List Nat} {b : Int32} {v : Nat} (hl : ∀ z, z ∈ l → z < 2 ^ 31) (hn : l.Nodup) (hv : v ∉ l) : (insB l b v).Nodup := by
  rcases insB_cases (b := b) (v := v) hl with ⟨-, e⟩ | ⟨m, A, B, -, -, e1, -, e2⟩
  · rw [e]; exact List.nodup_cons.mpr ⟨hv, hn⟩
  · rw [e1] at hn hv
    rw [e2]
    rw [List.nodup_append] at hn ⊢
    obtain ⟨n1, n2, n3⟩ := hn
    rw [List.nodup_cons] at n2
    have hvA : v ∉ A := fun q => hv (List.mem_append_left _ q)
    have hvm : v ≠ m := fun q => hv (List.mem_append_right _ (by rw [q]; exact List.mem_cons_self))
    have hvB : v ∉ B := fun q => hv (List.mem_append_right _ (List.mem_cons_of_mem _ q))
    refine ⟨n1, List.nodup_cons.mpr ⟨fun q => ?_, List.nodup_cons.mpr ⟨hvB, n2.2⟩⟩, fun a ha b hb => ?_⟩
    · rcases List.mem_cons.mp q with q | q
      · exact hvm q.symm
      · exact n2.1 q
    · rcases List.mem_cons.mp hb with q | q
      · exact n3 a ha b (by rw [q]; exact List.mem_cons_self)
      · rcases List.mem_cons.mp q with q | q
        · intro e; rw [e, q] at ha; exact hvA ha
        · exact n3 a ha b (List.mem_cons_of_mem _ q)
/-- how many before n are children of x -/
def plL (a : Nat → Int32) (x : Int32) : List Nat → Nat → Nat
  | [], _ => 0
  | z :: r, n => if z = n then 0 else (if a z = x then 1 else 0) + plL a x r n
theorem plL_c (a : Nat → Int32) (x : Int32) (z : Nat) (r : List Nat) (n : Nat) : plL a x (z :: r) n = if z = n then 0 else (if a z = x then 1 else 0) + plL a x r n := rfl
/-- how many are children of x -/
def ctL (a : Nat → Int32) (x : Int32) : List Nat → Nat
  | [] => 0
  | z :: r => (if a z = x then 1 else 0) + ctL a x r
theorem ctL_c (a : Nat → Int32) (x : Int32) (z : Nat) (r : List Nat) : ctL a x (z :: r) = (if a z = x then 1 else 0) + ctL a x r := rfl
theorem plL_le (a : Nat → Int32) (x : Int32) (n : Nat) : ∀ l, plL a x l n ≤ ctL a x l
  | [] => Nat.le_refl _
  | z :: r => by
    have := plL_le a x n r
    rw [plL_c, ctL_c]
    split <;> omega
theorem ctL_le (a : Nat → Int32) (x : Int32) : ∀ l, ctL a x l ≤ l.length
  | [] => Nat.le_refl _
  | z :: r => by
    have := ctL_le a x r
    rw [ctL_c, List.length_cons]
    split <;> omega
theorem plL_in {a : Nat → Int32} {x : Int32} {n : Nat} {B : List Nat} : ∀ {A : List Nat}, n ∈ A → plL a x (A ++ B) n = plL a x A n
  | [], h => by cases h
  | z :: r, h => by
    rw [List.cons_append, plL_c, plL_c]
    by_cases e : z = n
    · rw [if_pos e, if_pos e]
    · rw [if_neg e, if_neg e, plL_in]
      rcases List.mem_cons.mp h with q | q
      · exact absurd q.symm e
      · exact q
theorem plL_out {a : Nat → Int32} {x : Int32} {n : Nat} {B : List Nat} : ∀ {A : List Nat}, n ∉ A → plL a x (A ++ B) n = ctL a x A + plL a x B n
  | [], _ => by
    show plL a x B n = 0 + plL a x B n
    omega
  | z :: r, h => by
    rw [List.cons_append, plL_c, ctL_c, if_neg (fun e => h (by rw [e]; exact List.mem_cons_self)), plL_out (fun q => h (List.mem_cons_of_mem _ q))]
    omega
theorem ctL_app (a : Nat → Int32) (x : Int32) (B : List Nat) : ∀ A : List Nat, ctL a x (A ++ B) = ctL a x A + ctL a x B
  | [] => by
    show ctL a x B = 0 + ctL a x B
    omega
  | z :: r => by rw [List.cons_append, ctL_c, ctL_c, ctL_app a x B r]; omega
theorem plL_congr {a a' : Nat → Int32} {x : Int32} {n : Nat} : ∀ {l : List Nat}, (∀ z, z ∈ l → a z = a' z) → plL a x l n = plL a' x l n
  | [], _ => rfl
  | z :: r, h => by
    rw [plL_c, plL_c, h z List.mem_cons_self, plL_congr (fun q hq => h q (List.mem_cons_of_mem _ hq))]
theorem ctL_congr {a a' : Nat → Int32} {x : Int32} : ∀ {l : List Nat}, (∀ z, z ∈ l → a z = a' z) → ctL a x l = ctL a' x l
  | [], _ => rfl
  | z :: r, h => by
    rw [ctL_c, ctL_c, h z List.mem_cons_self, ctL_congr (fun q hq => h q (List.mem_cons_of_mem _ hq))]
/-- a node with that parent is counted -/
theorem plL_lt {a : Nat → Int32} {x : Int32} {n : Nat} : ∀ {l : List Nat}, n ∈ l → a n = x → plL a x l n < ctL a x l
  | [], h, _ => by cases h
  | z :: r, h, e => by
    rw [plL_c, ctL_c]
    by_cases q : z = n
    · rw [if_pos q, q, if_pos e]; omega
    · rw [if_neg q]
      have hr : n ∈ r := by
        rcases List.mem_cons.mp h with w | w
        · exact absurd w.symm q
        · exact w
      have := plL_lt hr e
      omega
/-- the place at which it is put -/
def plAt (a : Nat → Int32) (p : Int32) (l : List Nat) (b : Int32) : Nat := if hsB l b = true then plL a p l b.toNatClampNeg + 1 else 0
/-- v put under p behind b: the places of all -/
theorem ins_pl {a : Nat → Int32} {l : List Nat} {p b : Int32} {v : Nat} (hl : ∀ z, z ∈ l → z < 2 ^ 31) (hn : l.Nodup) (hv : v ∉ l) (hb : ∀ m, m ∈ l → b = nI m → a m = p) (n : Nat) (hnl : n ∈ l) (x : Int32) (hx : a n = x) :
    plL (upd a v p) x (insB l b v) n = if x = p ∧ plAt a p l b ≤ plL a x l n then plL a x l n + 1 else plL a x l n := by
  have ha : ∀ z, z ∈ l → upd a v p z = a z := fun z hz => if_neg (fun e => hv (by rw [← e]; exact hz))
  have hvv : upd a v p v = p := if_pos rfl
  have hnv : ¬ v = n := fun e => hv (by rw [e]; exact hnl)
  rcases insB_cases (b := b) (v := v) hl with ⟨h0, e⟩ | ⟨m, A, B, h0, hbm, e1, hmA, e2⟩
  · have e0 : plAt a p l b = 0 := by unfold plAt; rw [h0]; rfl
    rw [e, plL_c, if_neg hnv, hvv, plL_congr ha, e0]
    by_cases c : x = p
    · have c1 : (if p = x then 1 else 0) = 1 := if_pos c.symm
      rw [c1, if_pos ⟨c, Nat.zero_le _⟩]; omega
    · have c1 : (if p = x then 1 else 0) = 0 := if_neg (fun q => c q.symm)
      rw [c1, if_neg (fun q => c q.1)]; omega
  · have hm : m ∈ l := by rw [e1]; exact List.mem_append_right _ List.mem_cons_self
    have ham := hb m hm hbm
    have hmc : b.toNatClampNeg = m := by rw [hbm]; exact nI_clamp (hl m hm)
    have hA : ∀ z, z ∈ A → upd a v p z = a z := fun z hz => ha z (by rw [e1]; exact List.mem_append_left _ hz)
    have hB : ∀ z, z ∈ B → upd a v p z = a z := fun z hz => ha z (by rw [e1]; exact List.mem_append_right _ (List.mem_cons_of_mem _ hz))
    have hpl : plAt a p l b = ctL a p A + 1 := by
      unfold plAt
      rw [if_pos h0, hmc, e1, plL_out hmA, plL_c, if_pos rfl]
    rw [hpl, e2]
    by_cases nA : n ∈ A
    · rw [plL_in nA, plL_congr hA, e1, plL_in nA, if_neg]
      rintro ⟨c, q⟩
      have := plL_lt nA hx
      rw [c] at this q
      omega
    · rw [plL_out nA, e1, plL_out nA, ctL_congr hA, plL_c (upd a v p) x m (v :: B) n, plL_c a x m B n]
      by_cases c : m = n
      · rw [if_pos c, if_pos c, if_neg]
        rintro ⟨q1, q2⟩
        rw [q1] at q2; omega
      · rw [if_neg c, if_neg c, plL_c, if_neg hnv, hvv, ha m hm, ham, plL_congr hB]
        by_cases c2 : x = p
        · have c1 : (if p = x then 1 else 0) = 1 := if_pos c2.symm
          rw [c1, if_pos ⟨c2, by rw [c2]; omega⟩]; omega
        · have c1 : (if p = x then 1 else 0) = 0 := if_neg (fun q => c2 q.symm)
          rw [c1, if_neg (fun q => c2 q.1)]; omega
theorem ins_plv {a : Nat → Int32} {l : List Nat} {p b : Int32} {v : Nat} (hl : ∀ z, z ∈ l → z < 2 ^ 31) (hv : v ∉ l) (hb : ∀ m, m ∈ l → b = nI m → a m = p) : plL (upd a v p) p (insB l b v) v = plAt a p l b := by
  have ha : ∀ z, z ∈ l → upd a v p z = a z := fun z hz => if_neg (fun e => hv (by rw [← e]; exact hz))
  rcases insB_cases (b := b) (v := v) hl with ⟨h0, e⟩ | ⟨m, A, B, h0, hbm, e1, hmA, e2⟩
  · rw [e, plL_c, if_pos rfl]
    unfold plAt
    rw [h0, if_neg (by decide)]
  · have hm : m ∈ l := by rw [e1]; exact List.mem_append_right _ List.mem_cons_self
    have hmc : b.toNatClampNeg = m := by rw [hbm]; exact nI_clamp (hl m hm)
    have hvA : v ∉ A := fun q => hv (by rw [e1]; exact List.mem_append_left _ q)
    have hvm : ¬ m = v := fun q => hv (by rw [← q]; exact hm)
    rw [e2, plL_out hvA, plL_c, if_neg hvm, plL_c, if_pos rfl, ha m hm, hb m hm hbm, if_pos rfl, ctL_congr (fun z hz => ha z (by rw [e1]; exact List.mem_append_left _ hz))]
    unfold plAt
    rw [if_pos h0, hmc, e1, plL_out hmA, plL_c, if_pos rfl]
/-- v taken out: the places of all -/
theorem rmv_pl {a : Nat → Int32} {v : Nat} : ∀ {l : List Nat}, l.Nodup → v ∈ l → ∀ n, n ∈ l → n ≠ v → ∀ x, a n = x → plL a x (rmv v l) n = if a v = x ∧ plL a x l v < plL a x l n then plL a x l n - 1 else plL a x l n
  | [], _, h, _, _, _, _, _ => by cases h
  | z :: r, hn, h, n, hnl, hnv, x, hx => by
    rw [List.nodup_cons] at hn
    by_cases e : z = v
    · have e1 : rmv v (z :: r) = r := by
        unfold rmv
        rw [List.filter_cons, if_neg (by rw [e]; simp)]
        exact rmv_no (by rw [← e]; exact hn.1)
      have hzn : ¬ z = n := fun q => hnv (q ▸ e)
      rw [e1, plL_c, plL_c, if_pos e, if_neg hzn, e]
      by_cases c : a v = x
      · have c1 : (if a v = x then 1 else 0) = 1 := if_pos c
        rw [c1, if_pos ⟨c, by omega⟩]; omega
      · have c1 : (if a v = x then 1 else 0) = 0 := if_neg c
        rw [c1, if_neg (fun q => c q.1)]; omega
    · have e1 : rmv v (z :: r) = z :: rmv v r := by
        unfold rmv
        rw [List.filter_cons, if_pos (decide_eq_true e)]
      have hvr : v ∈ r := by
        rcases List.mem_cons.mp h with q | q
        · exact absurd q.symm e
        · exact q
      rw [e1, plL_c, plL_c, plL_c, if_neg e]
      by_cases c : z = n
      · rw [if_pos c, if_pos c, if_neg (fun q => by have := q.2; omega)]
      · have hnr : n ∈ r := by
          rcases List.mem_cons.mp hnl with q | q
          · exact absurd q.symm c
          · exact q
        rw [if_neg c, if_neg c, rmv_pl hn.2 hvr n hnr hnv x hx]
        generalize (if a z = x then 1 else 0) = k
        by_cases c2 : a v = x ∧ plL a x r v < plL a x r n
        · rw [if_pos c2, if_pos ⟨c2.1, by have := c2.2; omega⟩]
          have := c2.2
          omega
        · rw [if_neg c2, if_neg (fun q => c2 ⟨q.1, by have := q.2; omega⟩)]
/-- what a step does -/
def doS (R : Rs) (p : Sp) : Rs :=
  if p.1 = 0 then (max R.1 (p.2.1.toNatClampNeg + 1), insB R.2.1 p.2.2.2.1 p.2.1.toNatClampNeg, upd R.2.2.1 p.2.1.toNatClampNeg p.2.2.1, upd R.2.2.2.1 p.2.1.toNatClampNeg p.2.2.2.2.1, upd R.2.2.2.2 p.2.1.toNatClampNeg p.2.2.2.2.2)
  else if p.1 = 1 then (R.1, R.2.1, R.2.2.1, R.2.2.2.1, upd R.2.2.2.2 p.2.1.toNatClampNeg p.2.2.2.2.2)
  else if p.1 = 2 then (R.1, insB (rmv p.2.1.toNatClampNeg R.2.1) p.2.2.2.1 p.2.1.toNatClampNeg, upd R.2.2.1 p.2.1.toNatClampNeg p.2.2.1, R.2.2.2)
  else (R.1, rmv p.2.1.toNatClampNeg R.2.1, R.2.2)
/-- the one before is a child of the parent, where it is there -/
def bOk (b : Int32) : Prop := b < 0 ∨ ∃ m, b = nI m ∧ m < 36
def okB (R : Rs) (v : Nat) (p b : Int32) : Prop := p ≠ -2 ∧ bOk b ∧ ∀ m, m ∈ R.2.1 → m ≠ v → b = nI m → R.2.2.1 m = p
/-- a step that can be done on both sides alike -/
def okS (R : Rs) (p : Sp) : Prop := ∃ v, p.2.1 = nI v ∧ v < 36 ∧ ((p.1 = 0 ∧ v ∉ R.2.1 ∧ okB R v p.2.2.1 p.2.2.2.1) ∨ p.1 = 1 ∨ (p.1 = 2 ∧ v ∈ R.2.1 ∧ okB R v p.2.2.1 p.2.2.2.1) ∨ (p.1 = 3 ∧ v ∈ R.2.1))
def vaS (R : Rs) : List Sp → Prop
  | [] => True
  | p :: l => okS R p ∧ vaS (doS R p) l
theorem vaS_app {B : List Sp} : ∀ {A : List Sp} {R : Rs}, vaS R (A ++ B) ↔ vaS R A ∧ vaS (A.foldl doS R) B
  | [], R => ⟨fun h => ⟨trivial, h⟩, fun h => h.2⟩
  | p :: A, R => by
    show okS R p ∧ vaS (doS R p) (A ++ B) ↔ (okS R p ∧ vaS (doS R p) A) ∧ vaS (A.foldl doS (doS R p)) B
    rw [vaS_app (A := A)]
    exact ⟨fun h => ⟨⟨h.1, h.2.1⟩, h.2.2⟩, fun h => ⟨h.1.1, h.1.2, h.2⟩⟩

theorem rmv_len {v : Nat} : ∀ {l : List Nat}, l.Nodup → v ∈ l → (rmv v l).length + 1 = l.length
  | [], _, h => by cases h
  | z :: r, hn, h => by
    rw [List.nodup_cons] at hn
    by_cases e : z = v
    · have e1 : rmv v (z :: r) = r := by
        unfold rmv
        rw [List.filter_cons, if_neg (by rw [e]; simp)]
        exact rmv_no (by rw [← e]; exact hn.1)
      rw [e1]; rfl
    · have e1 : rmv v (z :: r) = z :: rmv v r := by
        unfold rmv
        rw [List.filter_cons, if_pos (decide_eq_true e)]
      have hvr : v ∈ r := by
        rcases List.mem_cons.mp h with q | q
        · exact absurd q.symm e
        · exact q
      rw [e1, List.length_cons, List.length_cons, rmv_len hn.2 hvr]
theorem nd_len : ∀ (n : Nat) (l : List Nat), l.Nodup → (∀ z, z ∈ l → z < n) → l.length ≤ n
  | 0, l, _, h => by
    cases l with
    | nil => exact Nat.le_refl _
    | cons z r => exact absurd (h z List.mem_cons_self) (Nat.not_lt_zero _)
  | n + 1, l, hn, h => by
    by_cases c : n ∈ l
    · have := rmv_len hn c
      have := nd_len n (rmv n l) (rmv_nd hn) (fun z hz => by
        obtain ⟨h1, h2⟩ := rmv_mem.mp hz
        have := h z h1
        omega)
      omega
    · have := nd_len n l hn (fun z hz => by
        have := h z hz
        have : z ≠ n := fun e => c (by rw [← e]; exact hz)
        omega)
      omega
/-- a result as it can be -/
def rOk (R : Rs) : Prop := R.1 ≤ 36 ∧ R.2.1.Nodup ∧ (∀ n, n ∈ R.2.1 → n < R.1) ∧ ∀ n, n ∈ R.2.1 → R.2.2.1 n ≠ -2
theorem rOk_len {R : Rs} (h : rOk R) : R.2.1.length ≤ 36 := nd_len 36 _ h.2.1 (fun z hz => by have := h.2.2.1 z hz; have := h.1; omega)
theorem rOk_lt {R : Rs} (h : rOk R) : ∀ z, z ∈ R.2.1 → z < 2 ^ 31 := fun z hz => by have := h.2.2.1 z hz; have := h.1; omega
theorem rOk_rmv {R : Rs} (h : rOk R) (v : Nat) : rOk (R.1, rmv v R.2.1, R.2.2) := ⟨h.1, rmv_nd h.2.1, fun n hn => h.2.2.1 n (rmv_mem.mp hn).1, fun n hn => h.2.2.2 n (rmv_mem.mp hn).1⟩
theorem rOk_ins {R : Rs} (h : rOk R) {v : Nat} {p b : Int32} (hv : v ∉ R.2.1) (hv2 : v < R.1) (hp : p ≠ -2) : rOk (R.1, insB R.2.1 b v, upd R.2.2.1 v p, R.2.2.2) := by
  refine ⟨h.1, insB_nd (rOk_lt h) h.2.1 hv, fun n hn => ?_, fun n hn => ?_⟩
  · rcases (insB_mem (rOk_lt h)).mp hn with q | q
    · rw [q]; exact hv2
    · exact h.2.2.1 n q
  · show upd R.2.2.1 v p n ≠ -2
    rcases (insB_mem (rOk_lt h)).mp hn with q | q
    · rw [q, show upd R.2.2.1 v p v = p from if_pos rfl]; exact hp
    · rw [show upd R.2.2.1 v p n = R.2.2.1 n from if_neg (fun e => hv (by rw [← e]; exact q))]; exact h.2.2.2 n q

theorem rOk_do {R : Rs} {q : Sp} (hR : rOk R) (h : okS R q) : rOk (doS R q) := by
  obtain ⟨k, n, p, b, y, x⟩ := q
  obtain ⟨v, e, hv, hc⟩ := h
  dsimp only at e hc
  subst e
  rcases hc with ⟨rfl, h1, h2⟩ | rfl | ⟨rfl, h1, h2⟩ | ⟨rfl, h1⟩
  · unfold doS
    dsimp only
    rw [if_pos rfl, nI_clamp (by omega)]
    have h3 : rOk (max R.1 (v + 1), R.2.1, R.2.2.1, upd R.2.2.2.1 v y, upd R.2.2.2.2 v x) := ⟨by have := hR.1; dsimp only; omega, hR.2.1, fun n hn => by have := hR.2.2.1 n hn; dsimp only; omega, hR.2.2.2⟩
    exact rOk_ins h3 h1 (by dsimp only; omega) h2.1
  · unfold doS
    dsimp only
    rw [if_neg (by decide), if_pos rfl]
    exact hR
  · unfold doS
    dsimp only
    rw [if_neg (by decide), if_neg (by decide), if_pos rfl, nI_clamp (by omega)]
    exact rOk_ins (R := (R.1, rmv v R.2.1, R.2.2)) (rOk_rmv hR v) (fun q => (rmv_mem.mp q).2 rfl) (hR.2.2.1 v h1) h2.1
  · unfold doS
    dsimp only
    rw [if_neg (by decide), if_neg (by decide), if_neg (by decide), nI_clamp (by omega)]
    exact rOk_rmv hR v
theorem rOk_tr {t : Tr} (hw : tW t) : rOk (t.1, List.range t.1, t.2.1, t.2.2.1, t.2.2.2) := by
  have h12 := hw.1
  refine ⟨by dsimp only; omega, List.nodup_range, fun n hn => List.mem_range.mp hn, fun n hn => ?_⟩
  rcases hw.2 n (List.mem_range.mp hn) with ⟨-, e⟩ | ⟨m, hm, e⟩
  · rw [show (t.1, List.range t.1, t.2.1, t.2.2.1, t.2.2.2).2.2.1 n = t.2.1 n from rfl, e]; decide
  · rw [show (t.1, List.range t.1, t.2.1, t.2.2.1, t.2.2.2).2.2.1 n = t.2.1 n from rfl, e]
    exact nI_m2 m (by have := List.mem_range.mp hn; omega)
theorem rOk_run : ∀ (l : List Sp) (R : Rs), rOk R → vaS R l → rOk (l.foldl doS R)
  | [], _, h, _ => h
  | q :: l, R, h, hv => rOk_run l (doS R q) (rOk_do h hv.1) hv.2
theorem vaS_take : ∀ (k : Nat) (l : List Sp) (R : Rs), vaS R l → vaS R (l.take k)
  | 0, l, R, _ => by rw [List.take_zero]; trivial
  | k + 1, [], R, _ => trivial
  | k + 1, q :: l, R, h => by
    rw [List.take_succ_cons]
    exact ⟨h.1, vaS_take k l _ h.2⟩
/-! The script of a diff can be done: on both sides alike -/
def trR (t : Tr) : Rs := (t.1, List.range t.1, t.2.1, t.2.2.1, t.2.2.2)
theorem doS_0 (R : Rs) (v : Nat) (hv : v < 2 ^ 31) (p b y l : Int32) : doS R (0, nI v, p, b, y, l) = (max R.1 (v + 1), insB R.2.1 b v, upd R.2.2.1 v p, upd R.2.2.2.1 v y, upd R.2.2.2.2 v l) := by
  unfold doS
  dsimp only
  rw [if_pos rfl, nI_clamp hv]
theorem doS_1 (R : Rs) (v : Nat) (hv : v < 2 ^ 31) (p b y l : Int32) : doS R (1, nI v, p, b, y, l) = (R.1, R.2.1, R.2.2.1, R.2.2.2.1, upd R.2.2.2.2 v l) := by
  unfold doS
  dsimp only
  rw [if_neg (by decide), if_pos rfl, nI_clamp hv]
theorem doS_2 (R : Rs) (v : Nat) (hv : v < 2 ^ 31) (p b y l : Int32) : doS R (2, nI v, p, b, y, l) = (R.1, insB (rmv v R.2.1) b v, upd R.2.2.1 v p, R.2.2.2) := by
  unfold doS
  dsimp only
  rw [if_neg (by decide), if_neg (by decide), if_pos rfl, nI_clamp hv]
theorem doS_3 (R : Rs) (v : Nat) (hv : v < 2 ^ 31) (p b y l : Int32) : doS R (3, nI v, p, b, y, l) = (R.1, rmv v R.2.1, R.2.2) := by
  unfold doS
  dsimp only
  rw [if_neg (by decide), if_neg (by decide), if_neg (by decide), nI_clamp hv]
/-- the nodes of the tree and those inserted are there -/
def inR (t : Tr) (i : Nat) (R : Rs) : Prop := ∀ z, z ∈ R.2.1 ↔ z < t.1 + i
/-- what the steps S of y's twig do -/
def twR (t w : Tr) (M : Pr) (y : Nat) (p : Int32) (i i' : Nat) (R : Rs) (S : List Sp) : Prop := vaS R S ∧ inR t i' (S.foldl doS R) ∧ i ≤ i' ∧ (∀ m, (∀ z, up w y z → z < w.1 → M.2 z ≠ some m) → ¬ (t.1 + i ≤ m ∧ m < t.1 + i') → (S.foldl doS R).2.2.1 m = R.2.2.1 m) ∧ ∀ m, m < 2 ^ 31 → cpO t i (M.2 y) = nI m → (S.foldl doS R).2.2.1 m = p
theorem nodeR {t w : Tr} {M : Pr} {X : Nat → Bool} {y : Nat} {p b : Int32} {i : Nat} {R : Rs} (hw : tW t) (hp : pW t w M) (hi : i + inO (M.2 y) ≤ 12) (hp2 : p ≠ -2) (hb2 : bOk b) (hR : inR t i R) (hb : ∀ m, m < t.1 + i → b = nI m → R.2.2.1 m = p) (hx : ∀ x, M.2 y = some x → R.2.2.1 x = t.2.1 x ∧ (X x = true → t.2.1 x = p)) :
    vaS R (stO t w X y p b i (M.2 y)) ∧ inR t (i + inO (M.2 y)) ((stO t w X y p b i (M.2 y)).foldl doS R) ∧ (∀ m, M.2 y ≠ some m → ¬ (t.1 + i ≤ m ∧ m < t.1 + (i + inO (M.2 y))) → ((stO t w X y p b i (M.2 y)).foldl doS R).2.2.1 m = R.2.2.1 m) ∧ ∀ m, m < 2 ^ 31 → cpO t i (M.2 y) = nI m → ((stO t w X y p b i (M.2 y)).foldl doS R).2.2.1 m = p := by
  have h12 := hw.1
  have hlt : ∀ z, z ∈ R.2.1 → z < 2 ^ 31 := fun z hz => by have := (hR z).mp hz; omega
  cases ho : M.2 y with
  | none =>
    rw [ho, inO_n] at hi
    rw [stO_n, inO_n]
    have e : ([(0, nI (t.1 + i), p, b, w.2.2.1 y, w.2.2.2 y)] : List Sp).foldl doS R = (max R.1 (t.1 + i + 1), insB R.2.1 b (t.1 + i), upd R.2.2.1 (t.1 + i) p, upd R.2.2.2.1 (t.1 + i) (w.2.2.1 y), upd R.2.2.2.2 (t.1 + i) (w.2.2.2 y)) := doS_0 R (t.1 + i) (by omega) _ _ _ _
    rw [e]
    refine ⟨⟨⟨t.1 + i, rfl, by omega, Or.inl ⟨rfl, fun q => by have := (hR _).mp q; omega, hp2, hb2, fun m hm _ e => hb m ((hR m).mp hm) e⟩⟩, trivial⟩, fun z => ?_, fun m h1 h2 => ?_, fun m hm h1 => ?_⟩
    · show z ∈ insB R.2.1 b (t.1 + i) ↔ z < t.1 + (i + 1)
      rw [insB_mem hlt, hR]
      omega
    · exact if_neg (by omega)
    · have : m = t.1 + i := by
        rw [cpO_n] at h1
        exact ((nI_eq (by omega) hm).mp h1).symm
      exact if_pos this
  | some x =>
    have hxt := (hp.2 y x ho).2
    obtain ⟨hx1, hx2⟩ := hx x ho
    rw [stO_s, inO_s]
    have key : ∀ U : List Sp, (U = [] ∨ U = [(1, nI x, -1, -1, -1, w.2.2.2 y)]) → vaS R U ∧ (U.foldl doS R).2.1 = R.2.1 ∧ (U.foldl doS R).2.2.1 = R.2.2.1 := by
      intro U hU
      rcases hU with rfl | rfl
      · exact ⟨trivial, rfl, rfl⟩
      · refine ⟨⟨⟨x, rfl, by omega, Or.inr (Or.inl rfl)⟩, trivial⟩, ?_, ?_⟩
        · rw [List.foldl_cons, List.foldl_nil, doS_1 R x (by omega)]
        · rw [List.foldl_cons, List.foldl_nil, doS_1 R x (by omega)]
    have hU : (if t.2.2.2 x = w.2.2.2 y then [] else [(1, nI x, -1, -1, -1, w.2.2.2 y)]) = ([] : List Sp) ∨ (if t.2.2.2 x = w.2.2.2 y then [] else [(1, nI x, -1, -1, -1, w.2.2.2 y)]) = ([(1, nI x, -1, -1, -1, w.2.2.2 y)] : List Sp) := by
      split
      · exact Or.inl rfl
      · exact Or.inr rfl
    obtain ⟨k1, k2, k3⟩ := key _ hU
    generalize (if t.2.2.2 x = w.2.2.2 y then ([] : List Sp) else [(1, nI x, -1, -1, -1, w.2.2.2 y)]) = U at k1 k2 k3
    rw [vaS_app, List.foldl_append]
    generalize U.foldl doS R = R1 at k2 k3
    cases hX : X x with
    | true =>
      rw [if_pos rfl]
      refine ⟨⟨k1, trivial⟩, fun z => ?_, fun m _ _ => ?_, fun m hm h1 => ?_⟩
      · show z ∈ R1.2.1 ↔ z < t.1 + (i + 0)
        rw [k2]; exact hR z
      · show R1.2.2.1 m = _
        rw [k3]
      · rw [cpO_s] at h1
        have : m = x := ((nI_eq (by omega) hm).mp h1).symm
        show R1.2.2.1 m = p
        rw [k3, this, hx1]
        exact hx2 hX
    | false =>
      rw [if_neg (by decide)]
      have e : ([(2, nI x, p, b, -1, 0)] : List Sp).foldl doS R1 = (R1.1, insB (rmv x R1.2.1) b x, upd R1.2.2.1 x p, R1.2.2.2) := doS_2 R1 x (by omega) _ _ _ _
      rw [e]
      have hlt1 : ∀ z, z ∈ rmv x R1.2.1 → z < 2 ^ 31 := fun z hz => hlt z (by rw [← k2]; exact (rmv_mem.mp hz).1)
      refine ⟨⟨k1, ⟨x, rfl, by omega, Or.inr (Or.inr (Or.inl ⟨rfl, by rw [k2]; exact (hR x).mpr (by omega), hp2, hb2, fun m hm _ e => by rw [k3]; rw [k2] at hm; exact hb m ((hR m).mp hm) e⟩))⟩, trivial⟩, fun z => ?_, fun m h1 _ => ?_, fun m hm h1 => ?_⟩
      · show z ∈ insB (rmv x R1.2.1) b x ↔ z < t.1 + (i + 0)
        rw [insB_mem hlt1, rmv_mem, k2, hR]
        constructor
        · rintro (q | q)
          · omega
          · have := q.1; omega
        · intro q
          by_cases c : z = x
          · exact Or.inl c
          · exact Or.inr ⟨by omega, c⟩
      · show upd R1.2.2.1 x p m = _
        rw [k3]
        exact if_neg (fun q => h1 (by rw [q]))
      · rw [cpO_s] at h1
        have : m = x := ((nI_eq (by omega) hm).mp h1).symm
        exact if_pos this
theorem twigR {t w : Tr} {M : Pr} {X : Nat → Bool} (hw : tW t) (hw' : tW w) (hp : pW t w M) (hI : mI M) (hT : sT t w M t.1 X) : ∀ (f y : Nat) (p b : Int32) (Z : Zs) (R : Rs), y < w.1 → w.1 - y ≤ f → p ≠ -2 → bOk b → (cw t w M X f y p b Z).2 ≤ 12 → inR t Z.2 R → (∀ m, m < t.1 + Z.2 → b = nI m → R.2.2.1 m = p) → (∀ z x, up w y z → M.2 z = some x → R.2.2.1 x = t.2.1 x) → (∀ x, M.2 y = some x → X x = true → t.2.1 x = p) →
    ∃ S, (cw t w M X f y p b Z).1 = Z.1 ++ S ∧ twR t w M y p Z.2 (cw t w M X f y p b Z).2 R S
  | 0, y, p, b, Z, R, hy, hf, _, _, _, _, _, _, _ => by omega
  | f + 1, y, p, b, Z, R, hy, hf, hp2, hb2, h12b, hR, hb, hu, hx => by
    have h12 := hw.1
    have h12' := hw'.1
    have hZ12 : Z.2 ≤ 12 := Nat.le_trans (cw_mono t w M X (f + 1) y p b Z) h12b
    have hcp2 : cpO t Z.2 (M.2 y) ≠ -2 := by
      cases ho : M.2 y with
      | none => exact nI_m2 _ (by omega)
      | some x => exact nI_m2 _ (by have := (hp.2 y x ho).2; omega)
    -- the children, one after another
    have hk : ∀ (m c : Nat) (b' : Int32) (Y : Zs) (R : Rs), c + m = w.1 → y < c → bOk b' → (cwk t M (fun c b' Z' => cw t w M X f c (cpO t Z.2 (M.2 y)) b' Z') (klF w y m c) b' Y).2 ≤ 12 → inR t Y.2 R → (∀ m, m < t.1 + Y.2 → b' = nI m → R.2.2.1 m = cpO t Z.2 (M.2 y)) → (∀ c' z x, c ≤ c' → c' < w.1 → w.2.1 c' = nI y → up w c' z → M.2 z = some x → R.2.2.1 x = t.2.1 x) →
        ∃ S, (cwk t M (fun c b' Z' => cw t w M X f c (cpO t Z.2 (M.2 y)) b' Z') (klF w y m c) b' Y).1 = Y.1 ++ S ∧ vaS R S ∧ inR t (cwk t M (fun c b' Z' => cw t w M X f c (cpO t Z.2 (M.2 y)) b' Z') (klF w y m c) b' Y).2 (S.foldl doS R) ∧ Y.2 ≤ (cwk t M (fun c b' Z' => cw t w M X f c (cpO t Z.2 (M.2 y)) b' Z') (klF w y m c) b' Y).2 ∧ ∀ n, (∀ z, bl w y z = true → z < w.1 → M.2 z ≠ some n) → ¬ (t.1 + Y.2 ≤ n ∧ n < t.1 + (cwk t M (fun c b' Z' => cw t w M X f c (cpO t Z.2 (M.2 y)) b' Z') (klF w y m c) b' Y).2) → (S.foldl doS R).2.2.1 n = R.2.2.1 n := by
      intro m
      induction m with
      | zero => intro c b' Y R _ _ _ _ hR _ _; exact ⟨[], by rw [List.append_nil]; rfl, trivial, hR, Nat.le_refl _, fun _ _ _ => rfl⟩
      | succ m ih =>
        intro c b' Y R hcm hyc hb2' hle hR hb hu
        by_cases h : w.2.1 c = nI y
        · rw [klF_s, if_pos h, cwk_c] at hle ⊢
          have hpm : pm w c = y := pm_of h hyc (by omega)
          have hbl : ∀ z, up w c z → bl w y z = true := fun z hz => up_kid (by omega) hpm hz
          -- nothing of it is settled elsewhere
          have hxc : ∀ x, M.2 c = some x → X x = true → t.2.1 x = cpO t Z.2 (M.2 y) := by
            intro x hcx hXx
            have hxt := (hp.2 c x hcx).2
            have hM := (hI x c).mpr hcx
            rcases hT.2.2 x hxt hXx with q | ⟨a, z, -, q2, q3⟩
            · obtain ⟨-, y', e1, e2⟩ := kn_iff.mp q
              rw [hM] at e1
              cases e1
              exact absurd (h.symm.trans e2) (nI_m1 y (by omega))
            · obtain ⟨e0, y', e1, e2⟩ := kn_iff.mp q3
              rw [hM] at e1
              cases e1
              have hz := (hp.1 a z q2).2
              have ez : z = y := (nI_eq (by omega) (by omega)).mp (e2.symm.trans h)
              rw [ez] at q2
              rw [(hI a y).mp q2, cpO_s]
              exact e0
          have hle1 : (cw t w M X f c (cpO t Z.2 (M.2 y)) b' Y).2 ≤ 12 := by
            have hmono : ∀ (l : List Nat) (b : Int32) (Y : Zs), Y.2 ≤ (cwk t M (fun c b' Z' => cw t w M X f c (cpO t Z.2 (M.2 y)) b' Z') l b Y).2 := cwk_mono (fun c b Z' => cw_mono t w M X f c _ b Z')
            exact Nat.le_trans (hmono _ _ _) hle
          obtain ⟨S1, s1, v1, v2, v3, v4, v5⟩ := twigR hw hw' hp hI hT f c (cpO t Z.2 (M.2 y)) b' Y R (by omega) (by omega) hcp2 hb2' hle1 hR hb (fun z x hz hx => hu c z x (Nat.le_refl _) (by omega) h hz hx) hxc
          generalize hY1 : cw t w M X f c (cpO t Z.2 (M.2 y)) b' Y = Y1 at s1 v1 v2 v3 v4 v5 hle hle1
          have hcb : bOk (cpO t Y.2 (M.2 c)) := by
            cases ho : M.2 c with
            | none => exact Or.inr ⟨t.1 + Y.2, rfl, by omega⟩
            | some x => exact Or.inr ⟨x, rfl, by have := (hp.2 c x ho).2; omega⟩
          obtain ⟨S2, s2, u1, u2, u3, u4⟩ := ih (c + 1) (cpO t Y.2 (M.2 c)) Y1 (S1.foldl doS R) (by omega) (by omega) hcb hle v2 (fun n hn e => v5 n (by have := v3; omega) e) (fun c' z x h1 h2 h3 h4 h5 => by
            have hpm' : pm w c' = y := pm_of h3 (by omega) (by omega)
            have hxt := (hp.2 z x h5).2
            rw [v4 x (fun z' hz' _ e => by
              have := (hI x z').mpr e
              rw [(hI x z).mpr h5] at this
              cases this
              have := up_sib (show 0 < c by omega) (show 0 < c' by omega) hyc (by omega) hpm hpm' hz' h4
              omega) (by omega)]
            exact hu c' z x (by omega) h2 h3 h4 h5)
          refine ⟨S1 ++ S2, by rw [s2, s1, List.append_assoc], vaS_app.mpr ⟨v1, u1⟩, by rw [List.foldl_append]; exact u2, by omega, fun n h1 h2 => ?_⟩
          rw [List.foldl_append, u4 n h1 (by omega), v4 n (fun z hz hzw => h1 z (hbl z hz) hzw) (by omega)]
        · rw [klF_s, if_neg h] at hle ⊢
          exact ih (c + 1) b' Y R (by omega) (by omega) hb2' hle hR hb (fun c' z x h1 => hu c' z x (by omega))
    rw [cw_s] at h12b ⊢
    have hin : Z.2 + inO (M.2 y) ≤ 12 := Nat.le_trans (cwk_mono (fun c b Z' => cw_mono t w M X f c _ b Z') _ _ (cwN t w M X y p b Z)) h12b
    obtain ⟨n1, n2, n3, n4⟩ := nodeR (X := X) (b := b) hw hp hin hp2 hb2 hR hb (fun x hMx => ⟨hu y x (Or.inl rfl) hMx, hx x hMx⟩)
    obtain ⟨S2, s2, u1, u2, u3, u4⟩ := hk (w.1 - (y + 1)) (y + 1) (-1) (cwN t w M X y p b Z) _ (by omega) (by omega) (Or.inl (by decide)) h12b n2 (fun m hm e => absurd e.symm (nI_m1 m (by
      have : m < t.1 + (Z.2 + inO (M.2 y)) := hm
      omega))) (fun c' z x h1 h2 h3 h4 h5 => by
        have hpm' : pm w c' = y := pm_of h3 (by omega) (by omega)
        have hbz := up_kid (show 0 < c' by omega) hpm' h4
        have hyz := bl_lt hbz
        have hxt := (hp.2 z x h5).2
        rw [n3 x (fun e => by
          have := (hI x y).mpr e
          rw [(hI x z).mpr h5] at this
          cases this; omega) (by omega)]
        exact hu z x (Or.inr hbz) h5)
    have e2 : (cwN t w M X y p b Z).2 = Z.2 + inO (M.2 y) := rfl
    rw [e2] at u3 u4
    refine ⟨stO t w X y p b Z.2 (M.2 y) ++ S2, ?_, vaS_app.mpr ⟨n1, u1⟩, by rw [List.foldl_append]; exact u2, Nat.le_trans (Nat.le_add_right _ _) u3, fun m h1 h2 => ?_, fun m hm h1 => ?_⟩
    · show (cwk _ _ _ _ _ _).1 = _
      unfold kl
      rw [s2, ← List.append_assoc]; rfl
    · have u3' : Z.2 + inO (M.2 y) ≤ _ := u3
      rw [List.foldl_append, u4 m (fun z hz hzw => h1 z (Or.inr hz) hzw) (fun q => h2 ⟨by omega, q.2⟩), n3 m (h1 y (Or.inl rfl) hy) (fun q => h2 ⟨q.1, Nat.lt_of_lt_of_le q.2 (Nat.add_le_add_left u3 _)⟩)]
    · rw [List.foldl_append, u4 m (fun z hz hzw e => ?_) (fun q => ?_)]
      · exact n4 m hm h1
      · have hyz := bl_lt hz
        cases ho : M.2 y with
        | none =>
          rw [ho, cpO_n] at h1
          have := (nI_eq (by omega) hm).mp h1
          have := (hp.2 z m e).2
          omega
        | some x =>
          rw [ho, cpO_s] at h1
          have hxt := (hp.2 y x ho).2
          have := (nI_eq (by omega) hm).mp h1
          subst this
          have a1 := (hI x y).mpr ho
          rw [(hI x z).mpr e] at a1
          cases a1; omega
      · cases ho : M.2 y with
        | none =>
          rw [ho, cpO_n] at h1
          rw [ho, inO_n] at q
          have := (nI_eq (by omega) hm).mp h1
          omega
        | some x =>
          rw [ho, cpO_s] at h1
          have hxt := (hp.2 y x ho).2
          have := (nI_eq (by omega) hm).mp h1
          omega
theorem dlR {M : Pr} : ∀ (n : Nat) (R : Rs), n ≤ 12 → (∀ z, z < n → z ∈ R.2.1) → vaS R (dlF M n)
  | 0, R, _, _ => trivial
  | n + 1, R, h12, h => by
    rw [dlF_s]
    cases ho : M.1 n with
    | none =>
      rw [dlO_n]
      refine ⟨⟨n, rfl, by omega, Or.inr (Or.inr (Or.inr ⟨rfl, h n (by omega)⟩))⟩, dlR n _ (by omega) fun z hz => ?_⟩
      rw [doS_3 R n (by omega)]
      exact rmv_mem.mpr ⟨h z (by omega), by omega⟩
    | some y =>
      rw [dlO_s]
      exact dlR n R (by omega) fun z hz => h z (by omega)
/-- the whole script -/
theorem scrR {t w : Tr} {M : Pr} {X : Nat → Bool} (hw : tW t) (hw' : tW w) (hu : 0 < w.1) (hp : pW t w M) (hI : mI M) (hT : sT t w M t.1 X) : vaS (trR t) (scr t w M X) := by
  have h12 := hw.1
  have h12' := hw'.1
  obtain ⟨l1, l2⟩ := scr_len (X := X) hw hw' hu hI hp
  have hR : inR t 0 (trR t) := fun z => by
    show z ∈ List.range t.1 ↔ z < t.1 + 0
    rw [List.mem_range]; omega
  obtain ⟨S, e, v1, v2, v3, v4, v5⟩ := twigR hw hw' hp hI hT 13 0 (-1) (-1) ([], 0) (trR t) hu (by omega) (by decide) (Or.inl (by decide)) (by unfold scI at l2; omega) hR (fun m hm e => absurd e.symm (nI_m1 m (by
    have : m < t.1 + 0 := hm
    omega))) (fun z x _ _ => rfl) (fun x hMx hXx => by
      have hxt := (hp.2 0 x hMx).2
      have hM := (hI x 0).mpr hMx
      have h0 : w.2.1 0 = -1 := by
        rcases hw'.2 0 hu with ⟨-, q⟩ | ⟨m, hm, -⟩
        · exact q
        · omega
      rcases hT.2.2 x hxt hXx with q | ⟨a, z, -, q2, q3⟩
      · exact (kn_iff.mp q).1
      · obtain ⟨e0, y', e1, e2⟩ := kn_iff.mp q3
        rw [hM] at e1
        cases e1
        have hz := (hp.1 a z q2).2
        exact absurd (e2.symm.trans h0) (nI_m1 z (by omega)))
  unfold scr
  rw [e, List.nil_append, vaS_app]
  exact ⟨v1, dlR t.1 _ h12 fun z hz => (v2 z).mpr (by omega)⟩
