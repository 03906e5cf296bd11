/-! The store behind the two constructors, evaluated; its shape written by program (wip/gen/gen_init.py) -/
def in_sk : List am_H := [.inr (.inr (0, [.inl 1, .inl 17, .inl 18, .inl 23, .inl 53, .inl 54, .inr 0, .inr 0])), .inr (.inl (2, 3)), .inr (.inr (1, [.inl 3, .inl 4, .inl 5, .inl 6, .inr 0])), .inl (0, 12), .inl (0, 12), .inl (0, 12), .inl (0, 12), .inr (.inr (1, [.inl 8, .inl 9, .inl 10, .inl 11, .inr 0])), .inl (0, 12), .inl (0, 12), .inl (0, 12), .inl (0, 12), .inr (.inr (1, [.inl 13, .inl 14, .inl 15, .inl 16, .inr 0])), .inl (0, 12), .inl (0, 12), .inl (0, 12), .inl (0, 12), .inl (0, 12), .inr (.inr (1, [.inl 19, .inl 20, .inl 21, .inl 22, .inr 0])), .inl (0, 12), .inl (0, 12), .inl (0, 12), .inl (0, 12), .inr (.inr (4, [.inl 24, .inl 36, .inl 44, .inl 45, .inl 46, .inl 47, .inr 1, .inr 1, .inr 0])), .inr (.inr (3, [.inl 25, .inl 26, .inl 27, .inl 28, .inl 29, .inl 30, .inr 1, .inr 1])), .inl (0, 12), .inl (0, 12), .inl (0, 12), .inl (0, 12), .inl (0, 12), .inl (0, 12), .inr (.inr (1, [.inl 32, .inl 33, .inl 34, .inl 35, .inr 0])), .inl (0, 0), .inl (0, 0), .inl (0, 0), .inl (0, 0), .inr (.inr (2, [.inl 37, .inr 0])), .inr (.inl (3, 6)), .inl (0, 24), .inl (0, 24), .inl (0, 24), .inl (0, 24), .inl (0, 24), .inl (0, 24), .inl (1, 12), .inl (0, 12), .inl (0, 12), .inl (0, 12), .inr (.inr (1, [.inl 49, .inl 50, .inl 51, .inl 52, .inr 0])), .inl (0, 0), .inl (0, 0), .inl (0, 0), .inl (0, 0), .inr (.inr (5, [.inl 54, .inl 59, .inl 89, .inl 72, .inl 102, .inl 119, .inl 120, .inr 0, .inr 0])), .inr (.inr (1, [.inl 55, .inl 56, .inl 57, .inl 58, .inr 0])), .inl (0, 36), .inl (0, 36), .inl (0, 36), .inl (0, 36), .inr (.inr (4, [.inl 60, .inl 72, .inl 80, .inl 81, .inl 82, .inl 83, .inr 1, .inr 1, .inr 0])), .inr (.inr (3, [.inl 61, .inl 62, .inl 63, .inl 64, .inl 65, .inl 66, .inr 1, .inr 1])), .inl (0, 12), .inl (0, 12), .inl (0, 12), .inl (0, 12), .inl (0, 12), .inl (0, 12), .inr (.inr (1, [.inl 68, .inl 69, .inl 70, .inl 71, .inr 0])), .inl (0, 0), .inl (0, 0), .inl (0, 0), .inl (0, 0), .inr (.inr (2, [.inl 73, .inr 0])), .inr (.inl (3, 6)), .inl (0, 24), .inl (0, 24), .inl (0, 24), .inl (0, 24), .inl (0, 24), .inl (0, 24), .inl (1, 12), .inl (0, 12), .inl (0, 12), .inl (0, 12), .inr (.inr (1, [.inl 85, .inl 86, .inl 87, .inl 88, .inr 0])), .inl (0, 0), .inl (0, 0), .inl (0, 0), .inl (0, 0), .inr (.inr (4, [.inl 90, .inl 102, .inl 110, .inl 111, .inl 112, .inl 113, .inr 1, .inr 1, .inr 0])), .inr (.inr (3, [.inl 91, .inl 92, .inl 93, .inl 94, .inl 95, .inl 96, .inr 1, .inr 1])), .inl (0, 12), .inl (0, 12), .inl (0, 12), .inl (0, 12), .inl (0, 12), .inl (0, 12), .inr (.inr (1, [.inl 98, .inl 99, .inl 100, .inl 101, .inr 0])), .inl (0, 0), .inl (0, 0), .inl (0, 0), .inl (0, 0), .inr (.inr (2, [.inl 103, .inr 0])), .inr (.inl (3, 6)), .inl (0, 24), .inl (0, 24), .inl (0, 24), .inl (0, 24), .inl (0, 24), .inl (0, 24), .inl (1, 12), .inl (0, 12), .inl (0, 12), .inl (0, 12), .inr (.inr (1, [.inl 115, .inl 116, .inl 117, .inl 118, .inr 0])), .inl (0, 0), .inl (0, 0), .inl (0, 0), .inl (0, 0), .inl (1, 24), .inl (0, 12), .inr (.inr (6, [.inl 122, .inl 123, .inl 124, .inl 125, .inl 126, .inl 127, .inl 128, .inl 129, .inl 130, .inl 131, .inl 132, .inl 133, .inl 134, .inl 135, .inl 136, .inl 137, .inr 0, .inr 0, .inl 138, .inl 139, .inl 140, .inl 141, .inl 142, .inl 143, .inl 144, .inl 145, .inr 0, .inl 146, .inr 0, .inr 0, .inl 147, .inl 148, .inl 149, .inl 150, .inl 151, .inr 0, .inl 152, .inl 153, .inl 154, .inl 155])), .inl (0, 4), .inl (0, 48), .inl (0, 48), .inl (0, 48), .inl (0, 12), .inl (0, 12), .inl (1, 144), .inl (1, 144), .inl (1, 144), .inl (0, 12), .inl (0, 12), .inl (0, 12), .inl (1, 12), .inl (0, 12), .inl (0, 12), .inl (0, 12), .inl (0, 4), .inl (0, 160), .inl (0, 160), .inl (0, 160), .inl (0, 160), .inl (0, 160), .inl (0, 160), .inl (0, 4), .inl (0, 12), .inl (1, 36), .inl (0, 36), .inl (0, 36), .inl (0, 36), .inl (0, 36), .inl (0, 36), .inl (0, 36), .inl (1, 12), .inl (0, 12)]
def in_nT : Nat := 121
/-- a cell's shape; the fields 6 and 7 of the classes 3 and 4 are places that may change -/
def in_sh (x : am_E) : am_H := match x with
  | .inl (t, (n, .inl _)) => .inl (t, n)
  | .inl (t, (n, .inr _)) => .inr (.inl (t, n))
  | .inr (ci, fs) => .inr (.inr (ci, fs.mapIdx (fun k v => match v with
    | .ref q => if (ci = 3 ∨ ci = 4) ∧ (k = 6 ∨ k = 7) then .inr 1 else .inl q
    | _ => .inr 0)))
def in_run1 : Option (Option Value × am_S) := am_run 0 (fun _ => 0) 5000 99 0 0 (am_en 0 [.ref 0]) [] [.inr (0, pg_def 0)]
def in_s1 : am_S := match in_run1 with
  | some (_, σ) => σ
  | none => []
def in_run2 : Option (Option Value × am_S) := am_run 0 (fun _ => 0) 5000 99 83 0 (am_en 83 [.ref 121]) [] (in_s1 ++ [.inr (6, pg_def 6)])
def in_s2 : am_S := match in_run2 with
  | some (_, σ) => σ
  | none => []
def in_ok (r : Option (Option Value × am_S)) : Bool := match r with
  | some (none, _) => true
  | _ => false
theorem in_1 : (in_ok in_run1 && decide (in_s1.length = 121)) = true := by decide +kernel
def in_gd (x : am_E) : Bool := match x with
  | .inl (_, (_, .inl _)) => true
  | .inl (_, (_, .inr (.inr (.inr (.inr _))))) => true
  | .inl _ => false
  | .inr (_, fs) => fs.all (fun v => match v with
    | .int _ => true
    | .ref _ => true
    | _ => false)
def in_gA (σ : am_S) (p : Nat) : Nat → Int32 := match σ[p]? with
  | some (.inl (_, (_, .inl f))) => f
  | _ => fun _ => 0
def in_gB (σ : am_S) (p : Nat) : Nat → Option Nat := match σ[p]? with
  | some (.inl (_, (_, .inr (.inr (.inr (.inr f)))))) => f
  | _ => fun _ => none
def in_gF (σ : am_S) (p k : Nat) : Int32 := match σ[p]? with
  | some (.inr (_, fs)) => (match fs[k]? with
    | some (.int x) => x
    | _ => 0)
  | _ => 0
def in_gG (σ : am_S) (p k : Nat) : Nat := match σ[p]? with
  | some (.inr (_, fs)) => (match fs[k]? with
    | some (.ref q) => q
    | _ => 0)
  | _ => 0
/-- what is known of the numbers behind the constructors -/
def in_fc (σ : am_S) : Bool := decide (σ.map in_sh = in_sk) && σ.all in_gd && (List.range 3).all (fun j => in_gB σ 1 j == some (2 + 5 * j)) && (List.range 6).all (fun j => in_gB σ 37 j == some (38 + j) && in_gB σ 73 j == some (74 + j) && in_gB σ 103 j == some (104 + j))
  && in_gF σ 0 6 == 0 && in_gF σ 0 7 == 0 && [2, 7, 12, 18].all (fun p => in_gF σ p 4 == 0 && (List.range 12).all (fun j => in_gA σ (p + 1) j == -2)) && in_gF σ 54 4 == 0 && (List.range 36).all (fun j => in_gA σ 55 j == -2)
  && (List.range 4).all (fun j => in_gA σ 122 j == 0 && in_gA σ 138 j == 0) && in_gF σ 121 26 == 0 && in_gF σ 121 28 == 0
theorem in_2 : (match in_run2 with
  | some (none, σ) => in_fc σ
  | _ => false) = true := by decide +kernel
theorem in_mk1 : ∀ (σ : am_S) (sk : List am_H), σ.map in_sh = sk → σ.all in_gd = true → σ = am_mk sk (in_gA σ) (in_gB σ) (in_gF σ) (in_gG σ) := by
  intro σ sk h1 h2
  apply List.ext_getElem?
  intro p
  unfold am_mk
  rw [List.getElem?_mapIdx, ← h1, List.getElem?_map]
  cases hp : σ[p]? with
  | none => rfl
  | some x =>
    simp only [Option.map_some]
    congr 1
    have hg := List.all_eq_true.mp h2 x (List.mem_of_getElem? hp)
    obtain ⟨t, n, f⟩ | ⟨ci, fs⟩ := x
    · obtain f | f | f | f | f := f
      · simp [in_sh, am_mc, in_gA, hp]
      · simp [in_gd] at hg
      · simp [in_gd] at hg
      · simp [in_gd] at hg
      · simp [in_sh, am_mc, in_gB, hp]
    · simp only [in_sh, am_mc]
      congr 2
      rw [List.mapIdx_mapIdx]
      apply List.ext_getElem?
      intro k
      rw [List.getElem?_mapIdx]
      cases hk : fs[k]? with
      | none => rfl
      | some v =>
        simp only [Option.map_some]
        congr 1
        simp only [in_gd] at hg
        have hv := List.all_eq_true.mp hg v (List.mem_of_getElem? hk)
        cases v with
        | int x => simp [am_fv, in_gF, hp, hk]
        | ref q =>
          dsimp only [Function.comp]
          split <;> simp [am_fv, in_gG, hp, hk]
        | _ => simp at hv
theorem in_end : ∃ σ : am_S, in_run2 = some (none, σ) ∧ in_fc σ = true := by
  have h := in_2
  split at h
  next σ he => exact ⟨σ, he, h⟩
  next => cases h
theorem in_end1 : ∃ σ : am_S, in_run1 = some (none, σ) ∧ in_s1 = σ ∧ σ.length = 121 := by
  have h := in_1
  rw [Bool.and_eq_true, decide_eq_true_eq] at h
  obtain ⟨h1, h2⟩ := h
  unfold in_ok at h1
  split at h1
  next σ he =>
    have e : in_s1 = σ := by unfold in_s1; rw [he]
    exact ⟨σ, he, e, by rw [← e]; exact h2⟩
  next => cases h1
