/-! An array of rows of ints, made at once: the outer array, then its rows, one behind the other -/
def mw_i (comp : ClassId) (M : Nat) : Cell := arrV comp M (fun _ => .int 0)
def mw_o (k : ClassId) (N h0 i : Nat) : Cell := arrV k N (fun j => if j < i then .ref (h0 + 1 + j) else .null)
def mw_s (s : State) (k comp : ClassId) (N M : Nat) : Nat → State
  | 0 => s.pushCell (mw_o k N s.heap.size 0)
  | i + 1 => ((mw_s s k comp N M i).pushCell (mw_i comp M)).setCell s.heap.size (mw_o k N s.heap.size (i + 1))
theorem mw_next (k : ClassId) (N h0 i : Nat) : (mw_o k N h0 i).setSlot i (.ref (h0 + 1 + i)) = mw_o k N h0 (i + 1) := by
  unfold mw_o
  rw [arrV_store]
  congr 1
  funext j
  unfold updV
  by_cases h : j = i
  · rw [if_pos h, if_pos (by omega), h]
  · rw [if_neg h]
    dsimp only
    by_cases h2 : j < i
    · rw [if_pos h2, if_pos (by omega)]
    · rw [if_neg h2, if_neg (by omega)]
theorem mw_facts (s : State) (k comp : ClassId) (N M : Nat) : ∀ i, (mw_s s k comp N M i).heap.size = s.heap.size + 1 + i ∧ (mw_s s k comp N M i).heap[s.heap.size]? = some (mw_o k N s.heap.size i) ∧ (mw_s s k comp N M i).vm = s.vm ∧ (mw_s s k comp N M i).slotsUsed = s.slotsUsed + N + i * M
  | 0 => ⟨by simp [mw_s], by simp [mw_s], rfl, by simp [mw_s, mw_o, arrV_size]⟩
  | i + 1 => by
    obtain ⟨a, b, d, u⟩ := mw_facts s k comp N M i
    have hlt : s.heap.size < (mw_s s k comp N M i).heap.size := by omega
    have hb' : ((mw_s s k comp N M i).pushCell (mw_i comp M)).heap[s.heap.size]? = some (mw_o k N s.heap.size i) := by rw [State.heap_pushCell_of_lt (h := hlt)]; exact b
    refine ⟨?_, State.heap_setCell_self hb', by simp [mw_s, d], ?_⟩
    · simp [mw_s, State.setCell, a]; omega
    · simp [mw_s, u, mw_i, arrV_size, Nat.succ_mul]; omega
theorem mw_old (s : State) (k comp : ClassId) (N M : Nat) {a : Addr} (ha : a < s.heap.size) : ∀ i, (mw_s s k comp N M i).heap[a]? = s.heap[a]?
  | 0 => State.heap_pushCell_of_lt _ _ ha
  | i + 1 => by
    have f1 := (mw_facts s k comp N M i).1
    have hlt : a < (mw_s s k comp N M i).heap.size := Nat.lt_of_lt_of_le ha (by rw [f1]; omega)
    show (((mw_s s k comp N M i).pushCell (mw_i comp M)).setCell s.heap.size _).heap[a]? = _
    rw [State.heap_setCell_other (Nat.ne_of_gt ha), State.heap_pushCell_of_lt (h := hlt)]
    exact mw_old s k comp N M ha i
theorem mw_row (s : State) (k comp : ClassId) (N M : Nat) : ∀ i j, j < i → (mw_s s k comp N M i).heap[s.heap.size + 1 + j]? = some (mw_i comp M)
  | 0, _, h => absurd h (Nat.not_lt_zero _)
  | i + 1, j, h => by
    have f1 := (mw_facts s k comp N M i).1
    show (((mw_s s k comp N M i).pushCell (mw_i comp M)).setCell s.heap.size _).heap[s.heap.size + 1 + j]? = _
    rw [State.heap_setCell_other (show s.heap.size ≠ s.heap.size + 1 + j by omega)]
    by_cases hj : j < i
    · have hlt : s.heap.size + 1 + j < (mw_s s k comp N M i).heap.size := by omega
      rw [State.heap_pushCell_of_lt (h := hlt)]
      exact mw_row s k comp N M i j hj
    · have e : j = i := by omega
      subst e
      rw [← f1]
      exact State.heap_pushCell_size _ _
theorem mw_top (s : State) (f : JFrame) (k comp : ClassId) (N M : Nat) : ∀ i, mw_s (s.setTop f) k comp N M i = (mw_s s k comp N M i).setTop f
  | 0 => rfl
  | i + 1 => by simp only [mw_s, mw_top s f k comp N M i, State.heap_setTop, State.pushCell_setTop, State.setCell_setTop]
section mwP
variable {E : CtlPost} {e : Env} {d : Bool} {acts : List Action} {s : State}
theorem mw_new1 {k comp : ClassId} {kl : Class} {type : FieldType} {len : Nat} {init : Value} (hk : s.vm.classes[k]? = some kl) (hkind : kl.kind = .array comp type)
    (hlimit : ¬ len > e.platform.arrayLengthLimit) (hheap : ¬ len * componentBytes type > e.platform.maxHeapBytes) (hfit : fits type init = true) (hdef : init.isDefault = true) {Q : Addr → Pre}
    (h1 : s.heap.size < e.platform.maxCells) (h2 : s.slotsUsed + len ≤ e.platform.maxSlots)
    (hq : Q s.heap.size d acts (s.pushCell (arrV k len (fun _ => init)))) : wp (Jvm.newArray k len init) Q E e d acts s := by
  rw [← arrV_new] at hq
  have hfits : ∀ i v, (Array.replicate len init)[i]? = some v → s.fitsSlot k .none i v = true := by
    intro i v hv
    rw [Array.getElem?_replicate] at hv
    split at hv
    · cases hv; simp [State.fitsSlot, State.slotType?, hk, hkind, hfit]
    · cases hv
  have hda : allocActs (Array.replicate len init) s.heap.size acts = acts := by
    unfold allocActs
    rw [if_pos]
    rw [Array.all_replicate]; split <;> simp [hdef]
  simp only [Jvm.newArray, Jvm.arrayFits, wp_bind', W.ask, W.ite, hlimit, if_false, wp_pure', W.theClass, hk, hkind, hheap, W.alloc, W.stop, Option.some.injEq, exists_eq_left', Array.size_replicate, hda]
  rw [if_neg (by omega)]
  exact ⟨h1, h2, hfits, hq⟩
theorem mw_make1 {comp cc : ClassId} {kc : Class} {m : Int32} (hkc : s.vm.classes[comp]? = some kc) (hkindc : kc.kind = .array cc .int) (hm : ¬ m < 0)
    (hl2 : ¬ m.toNatClampNeg > e.platform.arrayLengthLimit) (hh2 : ¬ m.toNatClampNeg * 4 > e.platform.maxHeapBytes)
    (h1 : s.heap.size < e.platform.maxCells) (h2 : s.slotsUsed + m.toNatClampNeg ≤ e.platform.maxSlots)
    {Q : Addr → Pre} (hq : Q s.heap.size d acts (s.pushCell (mw_i comp m.toNatClampNeg))) : wp (multianewarray.make comp [m]) Q E e d acts s := by
  rw [multianewarray.make]
  simp only [wp_bind', W.ite, hm, if_false, wp_pure', W.theClass, hkc, hkindc, Option.some.injEq, exists_eq_left']
  exact mw_new1 hkc hkindc hl2 hh2 rfl rfl h1 h2 hq
theorem mw_make2 {k comp cc : ClassId} {kl kc : Class} {n m : Int32} (hk : s.vm.classes[k]? = some kl) (hkind : kl.kind = .array comp (.array .int))
    (hkc : s.vm.classes[comp]? = some kc) (hkindc : kc.kind = .array cc .int) (hn : ¬ n < 0) (hm : ¬ m < 0)
    (hl1 : ¬ n.toNatClampNeg > e.platform.arrayLengthLimit) (hh1 : ¬ n.toNatClampNeg * 4 > e.platform.maxHeapBytes)
    (hl2 : ¬ m.toNatClampNeg > e.platform.arrayLengthLimit) (hh2 : ¬ m.toNatClampNeg * 4 > e.platform.maxHeapBytes)
    (hc : s.heap.size + 1 + n.toNatClampNeg ≤ e.platform.maxCells) (hs : s.slotsUsed + n.toNatClampNeg + n.toNatClampNeg * m.toNatClampNeg ≤ e.platform.maxSlots)
    {Q : Addr → Pre} (hq : ∀ d' acts', Q s.heap.size d' acts' (mw_s s k comp n.toNatClampNeg m.toNatClampNeg n.toNatClampNeg)) : wp (multianewarray.make k [n, m]) Q E e d acts s := by
  have hfind : ([m].find? (· < 0)) = none := by simp [hm]
  have h00 : mw_o k n.toNatClampNeg s.heap.size 0 = arrV k n.toNatClampNeg (fun _ => .null) := by
    unfold mw_o; congr 1
  rw [multianewarray.make]
  simp only [wp_bind', W.ite, hn, if_false, wp_pure', W.theClass, hk, hkind, Option.some.injEq, exists_eq_left']
  refine mw_new1 hk hkind hl1 hh1 rfl rfl (by omega) (by have := Nat.zero_le (n.toNatClampNeg * m.toNatClampNeg); omega) ?_
  rw [← h00]
  simp only [hfind]
  rw [ite_self, wp_bind', Std.Legacy.Range.forIn_eq_forIn_range']
  have hsz : ([:n.toNatClampNeg] : Std.Legacy.Range).size = n.toNatClampNeg := by simp [Std.Legacy.Range.size]
  rw [hsz]
  show wp (forIn (List.range' 0 n.toNatClampNeg 1) PUnit.unit _) _ E e d acts _
  refine wp_forIn_inv (fun rest s' => ∃ i, i ≤ n.toNatClampNeg ∧ rest = List.range' i (n.toNatClampNeg - i) ∧ s' = mw_s s k comp n.toNatClampNeg m.toNatClampNeg i) _ _ ⟨0, Nat.zero_le _, rfl, rfl⟩ ?_ ?_
  · rintro x rest s' d' acts' Q' ⟨i, hi, hl, rfl⟩ hnext
    have hlt : i < n.toNatClampNeg := by
      by_cases h : i < n.toNatClampNeg
      · exact h
      · rw [show n.toNatClampNeg - i = 0 from by omega] at hl; simp at hl
    obtain ⟨rfl, hrest⟩ : x = i ∧ rest = List.range' (i + 1) (n.toNatClampNeg - (i + 1)) := by
      rw [show n.toNatClampNeg - i = (n.toNatClampNeg - (i + 1)) + 1 from by omega, List.range'_succ] at hl
      exact ⟨(List.cons.inj hl).1, (List.cons.inj hl).2⟩
    obtain ⟨f1, f2, f3, f4⟩ := mw_facts s k comp n.toNatClampNeg m.toNatClampNeg x
    have hmul : x * m.toNatClampNeg + m.toNatClampNeg ≤ n.toNatClampNeg * m.toNatClampNeg := by
      have := Nat.mul_le_mul_right m.toNatClampNeg (show x + 1 ≤ n.toNatClampNeg from hlt)
      rw [Nat.succ_mul] at this; exact this
    simp only [wp_bind']
    refine mw_make1 (by rw [f3]; exact hkc) hkindc hm hl2 hh2 (by rw [f1]; omega) (by rw [f4]; omega) ?_
    have hlt0 : s.heap.size < (mw_s s k comp n.toNatClampNeg m.toNatClampNeg x).heap.size := by rw [f1]; omega
    simp only [wp_bind', W.writeLoc, wp_pure']
    refine ⟨mw_o k n.toNatClampNeg s.heap.size x, by rw [State.heap_pushCell_of_lt (h := hlt0)]; exact f2, by unfold mw_o arrV; simp, by unfold mw_o; rw [arrV_size]; exact hlt, ?_, hnext _ _ _ ⟨x + 1, hlt, hrest, ?_⟩⟩
    · show State.fitsSlot _ k .none x _ = true
      simp [State.fitsSlot, State.slotType?, f3, hk, hkind, fits]
    · rw [f1, mw_next]; rfl
  · rintro s' d' acts' ⟨i, hi, hl, rfl⟩
    have hiN : i = n.toNatClampNeg := by
      by_cases h : i < n.toNatClampNeg
      · rw [show n.toNatClampNeg - i = (n.toNatClampNeg - (i + 1)) + 1 from by omega, List.range'_succ] at hl; cases hl
      · omega
    subst hiN
    simp only [wp_pure']
    exact hq _ _
end mwP
section mwW
variable {p : Program} {l : Launch} {e : Env} {R : Room} {s : State} {m : MethodId} {args : Array Value} {below : List Frame} {meth : Method} {c : Code} {H : Heap} {T : State} {locs : List Loc} {cells slots : Nat} {Q : State → Prop}
theorem mw_stand (X : Stand p l e R s m args below meth c T locs cells slots) (cA comp : ClassId) (N M : Nat) :
    ∀ i, Stand p l e R s m args below meth c (mw_s T cA comp N M i) (locs ++ (List.range i).map fun j => ⟨T.heap.size, j⟩) (cells + 1 + i) (slots + N + i * M)
  | 0 => by
    have h := X.pushed (mw_o cA N T.heap.size 0)
    have e1 : (mw_o cA N T.heap.size 0).slots.size = N := by unfold mw_o; rw [arrV_size]
    rw [e1] at h
    simpa [mw_s] using h
  | i + 1 => by
    have Xi := mw_stand X cA comp N M i
    obtain ⟨f1, f2, f3, f4⟩ := mw_facts T cA comp N M i
    have hlt0 : T.heap.size < (mw_s T cA comp N M i).heap.size := by rw [f1]; omega
    have hcell : ((mw_s T cA comp N M i).pushCell (mw_i comp M)).heap[T.heap.size]? = some (mw_o cA N T.heap.size i) := by rw [State.heap_pushCell_of_lt (h := hlt0)]; exact f2
    have h := (Xi.pushed (mw_i comp M)).stored hcell i (.ref (T.heap.size + 1 + i))
    have e1 : (mw_i comp M).slots.size = M := by unfold mw_i; rw [arrV_size]
    rw [e1, mw_next] at h
    have e2 : (locs ++ (List.range (i + 1)).map fun j => (⟨T.heap.size, j⟩ : Loc)) = (locs ++ (List.range i).map fun j => (⟨T.heap.size, j⟩ : Loc)) ++ [⟨T.heap.size, i⟩] := by simp [List.range_succ, List.append_assoc]
    have e3 : slots + N + (i + 1) * M = slots + N + i * M + M := by rw [Nat.succ_mul]; omega
    rw [e2, e3]
    exact h
theorem mw_W (hexec : p.tables.exec = Jvm.exec) {cc : ByteArray} (hb : c.code = cc) {own : String} {index : Nat} (hown : s.vm.findClass own = some m.cls) (hclink : (Cond.classLink own index ("[" ++ (FieldType.array .int).toString)).before args s = true)
    (hover : am_OA s) (harr : (Cond.arrayClass .int).before args s = true)
    {pc : Nat} {ls : Array Slot} (hdg : decode cc pc = .ok (.multianewarray index 2, 4)) {n k : Int32} {rest : List Value} (hn : ¬ n < 0) (hk : ¬ k < 0) (hb1 : n.toNatClampNeg * 4 ≤ 536870912) (hb2 : k.toNatClampNeg * 4 ≤ 536870912)
    (hcells : cells + (1 + n.toNatClampNeg) ≤ R.cells) (hslots : slots + (n.toNatClampNeg + n.toNatClampNeg * k.toNatClampNeg) ≤ R.slots)
    (kk : ∀ (cA comp : ClassId) (H1 : Heap), s.vm.findClass ("[" ++ (FieldType.array .int).toString) = some cA → s.vm.findClass (FieldType.array .int).toString = some comp →
      H1.size = H.size + 1 + n.toNatClampNeg → (∀ a, a < H.size → H1[a]? = H[a]?) → H1[H.size]? = some (mw_o cA n.toNatClampNeg H.size n.toNatClampNeg) → (∀ j, j < n.toNatClampNeg → H1[H.size + 1 + j]? = some (mw_i comp k.toNatClampNeg)) →
      W p l e R s m args below meth c H1 (locs ++ (List.range n.toNatClampNeg).map fun j => ⟨H.size, j⟩) (cells + 1 + n.toNatClampNeg) (slots + n.toNatClampNeg + n.toNatClampNeg * k.toNatClampNeg) Q (F0 m (pc + 4) ls (.ref H.size :: rest))) :
    W p l e R s m args below meth c H locs cells slots Q (F0 m pc ls (.int k :: .int n :: rest)) := by
  intro T hT X
  subst hT; subst hb
  have hpl : e.platform.magicAccessors = ({} : Platform).magicAccessors := by rw [X.admits.platform]
  obtain ⟨comp, cA, kA, hcomp, hkA, hkindA, hnameA⟩ := hover
  obtain ⟨comp', kC, cc', hcomp', hkC, hkindC⟩ := Cond.arrayClass_spec harr
  have ecomp : comp' = comp := Option.some.inj (hcomp'.symm.trans hcomp)
  subst ecomp
  obtain ⟨c0, hfc0, hcl⟩ := Cond.classLink_spec hown hclink e.platform hpl
  cases hnameA.symm.trans hfc0
  obtain ⟨hg₁, hwarm₁, hready₁⟩ := State.classEntry (e := e) X.warmed hcl
  generalize T.vm.noted m.cls index (.cls cA) = vm₁ at hg₁ hwarm₁ hready₁
  have hal : s.vm.Alike vm₁ := hwarm₁.alike
  obtain ⟨kA₁, hkA₁, heA⟩ := hal.2.2 _ _ hkA
  obtain ⟨kC₁, hkC₁, heC⟩ := hal.2.2 _ _ hkC
  have hkindA₁ : kA₁.kind = .array comp' (.array .int) := by rw [heA]; exact hkindA
  have hkindC₁ : kC₁.kind = .array cc' .int := by rw [heC]; exact hkindC
  have X₁ := X.noted hwarm₁
  obtain ⟨hr1, hr2⟩ := X.roomAbove hcells hslots
  have XF := mw_stand X₁ cA comp' n.toNatClampNeg k.toNatClampNeg n.toNatClampNeg
  obtain ⟨f1, f2, f3, f4⟩ := mw_facts (T.setVm vm₁) cA comp' n.toNatClampNeg k.toNatClampNeg n.toNatClampNeg
  obtain ⟨t, a1, b1⟩ := kk cA comp' (mw_s (T.setVm vm₁) cA comp' n.toNatClampNeg k.toNatClampNeg n.toNatClampNeg).heap hnameA hcomp f1 (fun a ha => mw_old (T.setVm vm₁) cA comp' _ _ ha _) f2 (fun j hj => mw_row (T.setVm vm₁) cA comp' _ _ _ j hj) _ rfl XF
  refine ⟨t, ?_, b1⟩
  have hl1 : ¬ n.toNatClampNeg > e.platform.arrayLengthLimit := by rw [Launch.admits_arrayLengthLimit X.admits]; omega
  have hh1 : ¬ n.toNatClampNeg * 4 > e.platform.maxHeapBytes := by rw [Launch.admits_maxHeapBytes X.admits]; omega
  have hl2 : ¬ k.toNatClampNeg > e.platform.arrayLengthLimit := by rw [Launch.admits_arrayLengthLimit X.admits]; omega
  have hh2 : ¬ k.toNatClampNeg * 4 > e.platform.maxHeapBytes := by rw [Launch.admits_maxHeapBytes X.admits]; omega
  jvm_step X.here [hexec, hdg]
  simp only [multianewarray.sem, wp_bind', W.resolveClassAt_links (State.method?_setTop (F0 m pc ls (.int k :: .int n :: rest)) X.here.top) hg₁]
  rw [W.popN, if_neg (by decide)]
  refine ⟨F0 m pc ls (.int k :: .int n :: rest), State.topJava?_setTop' (s := T.setVm vm₁) (F0 m pc ls (.int k :: .int n :: rest)) X.here.top, [.int n, .int k], rest, rfl, rfl, ?_⟩
  simp only [List.mapM_cons, List.mapM_nil, wp_bind', wp_pure']
  refine mw_make2 (kl := kA₁) (kc := kC₁) (comp := comp') (cc := cc') hkA₁ hkindA₁ hkC₁ hkindC₁ hn hk hl1 hh1 hl2 hh2 (by show T.heap.size + 1 + _ ≤ _; omega) (by show T.slotsUsed + _ + _ ≤ _; omega) (fun d' acts' => ?_)
  have eS : ((T.setTop (F0 m pc ls (.int k :: .int n :: rest))).setVm vm₁).setTop { F0 m pc ls (.int k :: .int n :: rest) with stack := rest } = (T.setVm vm₁).setTop { F0 m pc ls (.int k :: .int n :: rest) with stack := rest } := by
    show ((T.setVm vm₁).setTop (F0 m pc ls (.int k :: .int n :: rest))).setTop _ = _
    rw [State.setTop_setTop]
  rw [eS, mw_top]
  simp only [wp_bind', W.mark, W.pushRef, State.topJava?_setTop' _ XF.here.top, Option.some.injEq, exists_eq_left', State.setTop_setTop, State.heap_setTop]
  intro acts
  simp [jvm, XF.here.top]
  exact a1
end mwW
