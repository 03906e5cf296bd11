/-! The store of a program that makes no more cells: a fixed shape, filled with numbers.
A shape's cell: an array of ints or booleans (kind, length); an array of references (kind, length); an object (class, its fields: a fixed place, 0 a number, 1 a place that may change). -/
abbrev am_H : Type := (Nat × Nat) ⊕ ((Nat × Nat) ⊕ (Nat × List (Nat ⊕ Nat)))
def am_fv (F : Nat → Nat → Int32) (G : Nat → Nat → Nat) (p k : Nat) (x : Nat ⊕ Nat) : Value := match x with
  | .inl q => .ref q
  | .inr 0 => .int (F p k)
  | .inr _ => .ref (G p k)
def am_mc (A : Nat → Nat → Int32) (B : Nat → Nat → Option Nat) (F : Nat → Nat → Int32) (G : Nat → Nat → Nat) (p : Nat) (h : am_H) : am_E := match h with
  | .inl (t, n) => .inl (t, (n, .inl (A p)))
  | .inr (.inl (t, n)) => .inl (t, (n, .inr (.inr (.inr (.inr (B p))))))
  | .inr (.inr (ci, fs)) => .inr (ci, fs.mapIdx (fun k x => am_fv F G p k x))
def am_mk (sk : List am_H) (A : Nat → Nat → Int32) (B : Nat → Nat → Option Nat) (F : Nat → Nat → Int32) (G : Nat → Nat → Nat) : am_S := sk.mapIdx (fun p h => am_mc A B F G p h)
def am_u2 {α : Type} (F : Nat → Nat → α) (p k : Nat) (x : α) : Nat → Nat → α := fun q j => if q = p ∧ j = k then x else F q j
section amK
variable {sk : List am_H} {A : Nat → Nat → Int32} {B : Nat → Nat → Option Nat} {F : Nat → Nat → Int32} {G : Nat → Nat → Nat} {p t n ci k : Nat} {fs : List (Nat ⊕ Nat)}
theorem am_mk_at {h : am_H} (hs : sk[p]? = some h) : (am_mk sk A B F G)[p]? = some (am_mc A B F G p h) := by
  unfold am_mk
  rw [List.getElem?_mapIdx, hs]; rfl
theorem am_mk_A {f : Nat → Int32} (hs : sk[p]? = some (.inl (t, n))) : (am_mk sk A B F G).set p (.inl (t, (n, .inl f))) = am_mk sk (va_up A p f) B F G := by
  apply List.ext_getElem?
  intro j
  rw [List.getElem?_set]
  by_cases h : p = j
  · subst h
    rw [if_pos rfl, am_mk_at hs]
    have hl : p < (am_mk sk A B F G).length := by
      unfold am_mk; rw [List.length_mapIdx]; exact (List.getElem?_eq_some_iff.mp hs).1
    rw [if_pos hl]
    simp [am_mc, va_up]
  · rw [if_neg h]
    unfold am_mk
    rw [List.getElem?_mapIdx, List.getElem?_mapIdx]
    cases hj : sk[j]? with
    | none => rfl
    | some x =>
      simp only [Option.map_some]
      congr 1
      obtain ⟨t', n'⟩ | ⟨t', n'⟩ | ⟨c', f'⟩ := x
      · simp [am_mc, va_up, Ne.symm h]
      · rfl
      · rfl
theorem am_mk_F {x : Int32} (hs : sk[p]? = some (.inr (.inr (ci, fs)))) (hk : fs[k]? = some (.inr 0)) : (am_mk sk A B F G).set p (.inr (ci, (fs.mapIdx (fun k x => am_fv F G p k x)).set k (.int x))) = am_mk sk A B (am_u2 F p k x) G := by
  apply List.ext_getElem?
  intro j
  rw [List.getElem?_set]
  by_cases h : p = j
  · subst h
    rw [if_pos rfl, am_mk_at hs]
    have hl : p < (am_mk sk A B F G).length := by
      unfold am_mk; rw [List.length_mapIdx]; exact (List.getElem?_eq_some_iff.mp hs).1
    rw [if_pos hl]
    simp only [am_mc]
    congr 3
    apply List.ext_getElem?
    intro i
    rw [List.getElem?_set, List.length_mapIdx, List.getElem?_mapIdx, List.getElem?_mapIdx]
    by_cases hi : k = i
    · subst hi
      rw [if_pos rfl, if_pos (List.getElem?_eq_some_iff.mp hk).1, hk]
      simp [am_fv, am_u2]
    · rw [if_neg hi]
      cases hx : fs[i]? with
      | none => rfl
      | some w =>
        simp only [Option.map_some]
        congr 1
        unfold am_fv
        split <;> simp [am_u2, Ne.symm hi]
  · rw [if_neg h]
    unfold am_mk
    rw [List.getElem?_mapIdx, List.getElem?_mapIdx]
    cases hj : sk[j]? with
    | none => rfl
    | some w =>
      simp only [Option.map_some]
      congr 1
      obtain ⟨t', n'⟩ | ⟨t', n'⟩ | ⟨c', f'⟩ := w
      · rfl
      · rfl
      · simp only [am_mc]
        congr 2
        congr 1
        funext i w
        unfold am_fv
        split <;> simp [am_u2, Ne.symm h]
theorem am_mk_G {x : Nat} (hs : sk[p]? = some (.inr (.inr (ci, fs)))) (hk : fs[k]? = some (.inr 1)) : (am_mk sk A B F G).set p (.inr (ci, (fs.mapIdx (fun k x => am_fv F G p k x)).set k (.ref x))) = am_mk sk A B F (am_u2 G p k x) := by
  apply List.ext_getElem?
  intro j
  rw [List.getElem?_set]
  by_cases h : p = j
  · subst h
    rw [if_pos rfl, am_mk_at hs]
    have hl : p < (am_mk sk A B F G).length := by
      unfold am_mk; rw [List.length_mapIdx]; exact (List.getElem?_eq_some_iff.mp hs).1
    rw [if_pos hl]
    simp only [am_mc]
    congr 3
    apply List.ext_getElem?
    intro i
    rw [List.getElem?_set, List.length_mapIdx, List.getElem?_mapIdx, List.getElem?_mapIdx]
    by_cases hi : k = i
    · subst hi
      rw [if_pos rfl, if_pos (List.getElem?_eq_some_iff.mp hk).1, hk]
      simp [am_fv, am_u2]
    · rw [if_neg hi]
      cases hx : fs[i]? with
      | none => rfl
      | some w =>
        simp only [Option.map_some]
        congr 1
        unfold am_fv
        split <;> simp [am_u2, Ne.symm hi]
  · rw [if_neg h]
    unfold am_mk
    rw [List.getElem?_mapIdx, List.getElem?_mapIdx]
    cases hj : sk[j]? with
    | none => rfl
    | some w =>
      simp only [Option.map_some]
      congr 1
      obtain ⟨t', n'⟩ | ⟨t', n'⟩ | ⟨c', f'⟩ := w
      · rfl
      · rfl
      · simp only [am_mc]
        congr 2
        congr 1
        funext i w
        unfold am_fv
        split <;> simp [am_u2, Ne.symm h]
/-- reads and writes of a filled shape -/
theorem am_k_ai {i : Int32} {f : Int32 → Prop} (hs : sk[p]? = some (.inl (t, n))) : am_ai t (am_mk sk A B F G) p i f = (am_in i n = true ∧ f (A p i.toNatClampNeg)) := by
  unfold am_ai
  rw [am_mk_at hs]
  simp [am_mc]
theorem am_k_wi {i x : Int32} {f : am_S → Prop} (hs : sk[p]? = some (.inl (t, n))) : am_wi t (am_mk sk A B F G) p i x f = (am_in i n = true ∧ f (am_mk sk (va_up A p (upd (A p) i.toNatClampNeg x)) B F G)) := by
  unfold am_wi
  rw [am_mk_at hs]
  simp only [am_mc, true_and]
  rw [am_mk_A hs]
theorem am_k_ar {i : Int32} {f : Nat → Prop} (hs : sk[p]? = some (.inr (.inl (t, n)))) (ht : t = 2 ∨ t = 3) : am_ar2 (am_mk sk A B F G) p i f = (am_in i n = true ∧ (match B p i.toNatClampNeg with
    | some q => f q
    | none => False)) := by
  unfold am_ar2
  rw [am_mk_at hs]
  simp only [am_mc, ht, true_and]
  all_goals (cases B p i.toNatClampNeg <;> rfl)
theorem am_k_fd {x : Nat ⊕ Nat} {f : Value → Prop} (hs : sk[p]? = some (.inr (.inr (ci, fs)))) (hk : fs[k]? = some x) : am_fd (am_mk sk A B F G) p ci k f = f (am_fv F G p k x) := by
  unfold am_fd
  rw [am_mk_at hs]
  simp [am_mc, hk]
theorem am_k_wF {y o : Nat} {x : Int32} {f : am_S → Prop} (hs : sk[p]? = some (.inr (.inr (ci, fs)))) (hk : fs[k]? = some (.inr 0)) (hft : am_fit (pg_fk ci k) (.int x) = true) (hff : pg_ff ci k = true → pg_ini y = true ∧ ci = o) : am_wf y o (am_mk sk A B F G) p ci k (.int x) f = f (am_mk sk A B (am_u2 F p k x) G) := by
  unfold am_wf
  rw [am_mk_at hs]
  simp only [am_mc]
  rw [am_mk_F hs hk]
  have hl : k < (fs.mapIdx (fun k x => am_fv F G p k x)).length := by rw [List.length_mapIdx]; exact (List.getElem?_eq_some_iff.mp hk).1
  apply propext
  exact ⟨fun h => h.2, fun h => ⟨⟨trivial, hl, hft, hff⟩, h⟩⟩
theorem am_k_wG {y o x : Nat} {f : am_S → Prop} (hs : sk[p]? = some (.inr (.inr (ci, fs)))) (hk : fs[k]? = some (.inr 1)) (hft : am_fit (pg_fk ci k) (.ref x) = true) (hff : pg_ff ci k = true → pg_ini y = true ∧ ci = o) : am_wf y o (am_mk sk A B F G) p ci k (.ref x) f = f (am_mk sk A B F (am_u2 G p k x)) := by
  unfold am_wf
  rw [am_mk_at hs]
  simp only [am_mc]
  rw [am_mk_G hs hk]
  have hl : k < (fs.mapIdx (fun k x => am_fv F G p k x)).length := by rw [List.length_mapIdx]; exact (List.getElem?_eq_some_iff.mp hk).1
  apply propext
  exact ⟨fun h => h.2, fun h => ⟨⟨trivial, hl, hft, hff⟩, h⟩⟩
theorem am_k_lnA {f : Int32 → Prop} (hs : sk[p]? = some (.inl (t, n))) (ht : t < 4) : am_ln (am_mk sk A B F G) p f = f (Int32.ofNat n) := by
  unfold am_ln
  simp only [am_mk_at hs, am_mc, ht, true_and]
end amK
