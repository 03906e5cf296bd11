/-! How a store of the machine lies in the heap -/
def am_cv (bs hz : Nat) (v : Value) : Value := match v with
  | .ref p => .ref (hz + p)
  | .float _ => .ref bs
  | w => w
def am_ca (hz : Nat) (a : vp_A) : vp_A := (a.1, match a.2 with
  | .inl f => .inl f
  | .inr (.inl f) => .inr (.inl f)
  | .inr (.inr (.inl f)) => .inr (.inr (.inl f))
  | .inr (.inr (.inr (.inl f))) => .inr (.inr (.inr (.inl f)))
  | .inr (.inr (.inr (.inr f))) => .inr (.inr (.inr (.inr (fun j => (f j).map (fun q => hz + q))))))
def am_ce (bs hz : Nat) (dA : Nat → ClassId) (x : am_E) : va_E := match x with
  | .inl (t, a) => .inl (dA t, am_ca hz a)
  | .inr (ci, fs) => .inr (ci, fs.map (am_cv bs hz))
def am_w (bs hz : Nat) (dA : Nat → ClassId) (σ : am_S) : va_W := σ.mapIdx (fun k x => (hz + k, am_ce bs hz dA x))
theorem am_w_get (bs hz : Nat) (dA : Nat → ClassId) (σ : am_S) (k : Nat) : (am_w bs hz dA σ)[k]? = (σ[k]?).map (fun x => (hz + k, am_ce bs hz dA x)) := by
  simp [am_w, List.getElem?_mapIdx]
theorem am_w_at {bs hz : Nat} {dA : Nat → ClassId} {σ : am_S} {k : Nat} {x : am_E} (h : σ[k]? = some x) : (am_w bs hz dA σ)[k]? = some (hz + k, am_ce bs hz dA x) := by
  rw [am_w_get, h]; rfl
theorem am_w_len (bs hz : Nat) (dA : Nat → ClassId) (σ : am_S) : (am_w bs hz dA σ).length = σ.length := by
  simp [am_w]
theorem am_w_set (bs hz : Nat) (dA : Nat → ClassId) (σ : am_S) (k : Nat) (x : am_E) : (am_w bs hz dA σ).set k (hz + k, am_ce bs hz dA x) = am_w bs hz dA (σ.set k x) := by
  apply List.ext_getElem?
  intro j
  rw [am_w_get, List.getElem?_set, List.getElem?_set, am_w_len, am_w_get]
  by_cases h : k = j
  · subst h
    by_cases h2 : k < σ.length
    · simp [h2]
    · simp [h2]
  · simp [h]
theorem am_w_push (bs hz : Nat) (dA : Nat → ClassId) (σ : am_S) (x : am_E) : am_w bs hz dA (σ ++ [x]) = am_w bs hz dA σ ++ [(hz + σ.length, am_ce bs hz dA x)] := by
  simp [am_w, List.mapIdx_append]
theorem am_w_D (bs hz : Nat) (dA : Nat → ClassId) (σ : am_S) : va_D (fun q => hz ≤ q) (am_w bs hz dA σ) := by
  refine ⟨fun i j a b hi hj hab => ?_, fun k q hk => ?_⟩
  · rw [am_w_get] at hi hj
    obtain ⟨x, -, rfl⟩ := Option.map_eq_some_iff.mp hi
    obtain ⟨z, -, rfl⟩ := Option.map_eq_some_iff.mp hj
    have : hz + i = hz + j := hab
    omega
  · rw [am_w_get] at hk
    obtain ⟨x, -, rfl⟩ := Option.map_eq_some_iff.mp hk
    exact Nat.le_add_right _ _
theorem am_cat {bs hz : Nat} {v : Value} (h : am_ok v = true) : (am_cv bs hz v).category = 1 := by
  cases v <;> first | rfl | simp [am_ok] at h
theorem am_def_cv (bs hz : Nat) {ci : Nat} (h : ci < 7) : (pg_def ci).map (am_cv bs hz) = pg_def ci := by
  match ci, h with
  | 0, _ => rfl
  | 1, _ => rfl
  | 2, _ => rfl
  | 3, _ => rfl
  | 4, _ => rfl
  | 5, _ => rfl
  | 6, _ => rfl
/-- the locals -/
def am_L (bs hz : Nat) (lsA : Array Slot) (ls : List Value) (nL : Nat) : Prop :=
  ls.length = nL ∧ lsA.size = nL ∧ lv_wf lsA ∧ ∀ (i : Nat) (v : Value), ls[i]? = some v → am_ok v = true → lsA[i]? = some (.val (am_cv bs hz v))
def am_lv (bs hz : Nat) (ls : List Value) : List (Nat × Value) := (ls.mapIdx (fun i v => (i, v))).filterMap (fun q => if am_ok q.2 = true then some (q.1, am_cv bs hz q.2) else none)
theorem am_lv_mem {bs hz : Nat} {ls : List Value} {q : Nat × Value} : q ∈ am_lv bs hz ls ↔ ∃ v, ls[q.1]? = some v ∧ am_ok v = true ∧ q.2 = am_cv bs hz v := by
  unfold am_lv
  rw [List.mem_filterMap]
  constructor
  · rintro ⟨⟨i, v⟩, h1, h2⟩
    obtain ⟨j, hj⟩ := List.getElem?_of_mem h1
    rw [List.getElem?_mapIdx] at hj
    obtain ⟨w, hw, he⟩ := Option.map_eq_some_iff.mp hj
    obtain ⟨rfl, rfl⟩ := Prod.mk.inj he
    dsimp only at h2
    split at h2
    next hok =>
      obtain rfl := Option.some.inj h2
      exact ⟨w, hw, hok, rfl⟩
    next => cases h2
  · rintro ⟨v, h1, h2, h3⟩
    refine ⟨(q.1, v), ?_, ?_⟩
    · refine List.mem_of_getElem? (i := q.1) ?_
      rw [List.getElem?_mapIdx, h1]; rfl
    · dsimp only
      rw [if_pos h2, ← h3]
theorem am_L_has {bs hz : Nat} {lsA : Array Slot} {ls : List Value} {nL : Nat} (h : am_L bs hz lsA ls nL) : lv_has lsA nL (am_lv bs hz ls) := by
  refine ⟨h.2.1, h.2.2.1, fun q hq => ?_⟩
  obtain ⟨v, h1, h2, h3⟩ := am_lv_mem.mp hq
  rw [h3]
  exact h.2.2.2 _ v h1 h2
theorem am_L_set {bs hz : Nat} {lsA ls1 : Array Slot} {ls : List Value} {nL i : Nat} {v : Value} (h : am_L bs hz lsA ls nL) (hv : am_ok v = true)
    (h1 : lv_has ls1 nL ((i, am_cv bs hz v) :: (am_lv bs hz ls).filter (fun q => !(q.1 == i) && !(q.1 + 1 == i && q.2.category == 2)))) : am_L bs hz ls1 (ls.set i v) nL := by
  refine ⟨by rw [List.length_set]; exact h.1, h1.1, h1.2.1, fun j w hj hw => ?_⟩
  rw [List.getElem?_set] at hj
  by_cases hij : i = j
  · subst hij
    rw [if_pos rfl] at hj
    split at hj
    · obtain rfl := Option.some.inj hj
      exact h1.2.2 _ List.mem_cons_self
    · cases hj
  · rw [if_neg hij] at hj
    refine h1.2.2 (j, am_cv bs hz w) (List.mem_cons_of_mem _ (List.mem_filter.mpr ⟨am_lv_mem.mpr ⟨w, hj, hw, rfl⟩, ?_⟩))
    have hc := am_cat (bs := bs) (hz := hz) hw
    simp [hc, Ne.symm hij]
theorem am_L_in {bs hz : Nat} {vs : List Value} {nL : Nat} (hn : vs.length ≤ nL) (hv : ∀ v ∈ vs, am_ok v = true) :
    am_L bs hz ((lg_sl (vs.map (am_cv bs hz)) ++ List.replicate (nL - (lg_sl (vs.map (am_cv bs hz))).length) Slot.unset).toArray) (vs ++ List.replicate (nL - vs.length) (.retAddr 0)) nL ∧ (lg_sl (vs.map (am_cv bs hz))).length ≤ nL := by
  have hsl : ∀ (us : List Value), (∀ v ∈ us, am_ok v = true) → (lg_sl (us.map (am_cv bs hz))) = us.map (fun v => Slot.val (am_cv bs hz v)) := by
    intro us
    induction us with
    | nil => intro _; rfl
    | cons u us ih =>
      intro h
      have hc := am_cat (bs := bs) (hz := hz) (h u List.mem_cons_self)
      have h2 := ih (fun v hv => h v (List.mem_cons_of_mem _ hv))
      unfold lg_sl at h2 ⊢
      simp only [List.map_cons, List.flatMap_cons, hc, h2]
      rfl
  have he := hsl vs hv
  have hlen : (lg_sl (vs.map (am_cv bs hz))).length ≤ nL := by rw [he, List.length_map]; exact hn
  have hE := lv_entry (vs.map (am_cv bs hz)) hlen
  refine ⟨⟨by simp; omega, hE.1, hE.2.1, fun i v hi hok => ?_⟩, hlen⟩
  by_cases hi2 : i < vs.length
  · rw [List.getElem?_append_left hi2] at hi
    rw [List.getElem?_toArray, he, List.getElem?_append_left (by rw [List.length_map]; exact hi2), List.getElem?_map, hi]
    rfl
  · rw [List.getElem?_append_right (by omega)] at hi
    have := List.mem_of_getElem? hi
    rw [List.mem_replicate] at this
    rw [this.2] at hok
    cases hok
/-- slots in use -/
def am_z (x : am_E) : Nat := match x with
  | .inl (_, a) => a.1
  | .inr (_, fs) => fs.length
def am_ns (σ : am_S) : Nat := (σ.map am_z).sum
theorem am_ns_set {σ : am_S} {k : Nat} {x x' : am_E} (h : σ[k]? = some x) (hx : am_z x' = am_z x) : am_ns (σ.set k x') = am_ns σ := by
  unfold am_ns
  congr 1
  apply List.ext_getElem?
  intro j
  rw [List.getElem?_map, List.getElem?_map, List.getElem?_set]
  by_cases hj : k = j
  · subst hj
    have hl := (List.getElem?_eq_some_iff.mp h).1
    rw [if_pos rfl, if_pos hl, h]
    simp only [Option.map_some, hx]
  · rw [if_neg hj]
theorem am_ns_setE {σ : am_S} {k n : Nat} {x x' : am_E} (h : σ[k]? = some x) (hx : am_z x' = am_z x) : n + am_ns σ = n + am_ns (σ.set k x') := by rw [am_ns_set h hx]
theorem am_ns_app (σ τ : am_S) : am_ns (σ ++ τ) = am_ns σ + am_ns τ := by
  simp [am_ns]
/-- the dynamic part: the store lies in the heap, nothing below hz has changed, so many cells are new -/
def am_Dy (bs hz : Nat) (dC : Nat → ClassId) (dI : Nat → Nat → Nat) (dA : Nat → ClassId) (s : State) (H : Heap) (locs : List Loc) (cells : Nat) (σ : am_S) : Prop :=
  va_P (dC, dI) pg_cl (am_w bs hz dA σ) H ∧ va_S (fun q => hz ≤ q) s.heap H locs ∧ s.heap.size + cells = hz + σ.length
/-- what else is known of the tables: the arrays' classes, the links to a nest mate's method -/
def am_OA (U : State) : Prop := ∃ (comp cA : ClassId) (kA : Class), U.vm.findClass (FieldType.array .int).toString = some comp ∧ U.vm.classes[cA]? = some kA ∧ kA.kind = .array comp (.array .int) ∧ U.vm.findClass ("[" ++ (FieldType.array .int).toString) = some cA
theorem am_OA.moved {u U : State} (hvm : u.vm.Alike U.vm) (h : am_OA u) : am_OA U := by
  obtain ⟨comp, cA, kA, h1, h2, h3, h4⟩ := h
  obtain ⟨k', hk', he⟩ := hvm.2.2 _ _ h2
  exact ⟨comp, cA, k', by rw [hvm.findClass]; exact h1, hk', by rw [he]; exact h3, by rw [hvm.findClass]; exact h4⟩
def am_X0 (U : State) : Prop := va_AO (pg_cn pg_ae) U ∧ am_OA U ∧ ∀ w ∈ pg_nest, va_Nw w U
theorem am_X0.warm {u U : State} (hW : u.WarmedH U.vm) (h : am_X0 u) : am_X0 U := by
  refine ⟨h.1.moved hW.alike, h.2.1.moved hW.alike, fun w hw => ?_⟩
  have h2 := h.2.2 w hw
  simp only [pg_nest, List.mem_cons, List.not_mem_nil, or_false] at hw
  rcases hw with rfl | rfl
  · exact va_Nw.warmM hW h2
  · exact va_Nw.warmM hW h2
theorem am_X0.same {u U : State} (e : u.vm = U.vm) (h : am_X0 u) : am_X0 U := by
  refine ⟨h.1.moved (by rw [e]; exact Vm.Alike.refl _), h.2.1.moved (by rw [e]; exact Vm.Alike.refl _), fun w hw => ?_⟩
  have h2 := h.2.2 w hw
  simp only [pg_nest, List.mem_cons, List.not_mem_nil, or_false] at hw
  rcases hw with rfl | rfl
  · exact va_Nw.same rfl e h2
  · exact va_Nw.same rfl e h2
/-- the static part -/
def am_Fr (bs hz : Nat) (dC : Nat → ClassId) (dI : Nat → Nat → Nat) (dA : Nat → ClassId) (L : Nat) (xs : Nat → Int32) (p : Program) (R : Room) (s : State) (m : MethodId) (args : Array Value) (meth : Method) (c : Code) (d y : Nat) : Prop :=
  p.tables.exec = Jvm.exec ∧ c.code = pg_code y ∧ c.maxLocals = pg_maxL y ∧ meth.sig.returnType = pg_ret y ∧ meth.locks = false ∧ (pg_ini y = true → meth.name = (pg_y y).name) ∧ s.vm.findClass (pg_cn (pg_own y)) = some m.cls ∧
  (∀ w ∈ pg_words, w.before args s = true) ∧ va_K (dC, dI) pg_cl (pg_tys dA) s ∧ va_X bs L xs s s.heap ∧ bs < hz ∧ hz ≤ s.heap.size ∧ d ≤ R.frames ∧ 60 * d ≤ R.locals ∧ y ≤ pg_num ∧ am_X0 s
section amW
variable {p : Program} {l : Launch} {e : Env} {R : Room} {s : State} {m : MethodId} {args : Array Value} {below : List Frame} {meth : Method} {c : Code} {H : Heap} {locs : List Loc} {cells slots : Nat} {Q : State → Prop}
variable {bs hz : Nat} {dC : Nat → ClassId} {dI : Nat → Nat → Nat} {dA : Nat → ClassId} {L : Nat} {xs : Nat → Int32}
/-- the heap's size is known: it ends behind the store -/
theorem am_size {σ : am_S} {g : JFrame} (hD : am_Dy bs hz dC dI dA s H locs cells σ) (hh : hz ≤ s.heap.size) (k : H.size = hz + σ.length → W p l e R s m args below meth c H locs cells slots Q g) : W p l e R s m args below meth c H locs cells slots Q g := by
  intro T hT X
  refine k ?_ T hT X
  have h1 : T.heap.size ≤ s.heap.size + cells := X.same.2.2.1
  rw [hT] at h1
  obtain ⟨hP, hS, hc⟩ := hD
  have h2 : hz + σ.length ≤ H.size := by
    by_cases h0 : σ.length = 0
    · have := hS.1
      omega
    · have hg : σ[σ.length - 1]? = some (σ[σ.length - 1]'(by omega)) := List.getElem?_eq_getElem (by omega)
      have := (hP _ _ (am_w_at hg)).lt
      dsimp only at this
      omega
  omega
end amW
