/-! The rows, one for each kind of instruction -/
section amO
variable {L : Nat} {xs : Nat → Int32} {d y pc : Nat} {ls st : List Value} {σ : am_S} {Q : Option Value → am_S → Prop}
theorem am_stuck {i : Instr} {len : Nat} (hd : decode (pg_code y) pc = .ok (i, len)) (hl : am_lo i len = true) (hr : am_ret y i st = none) (hc : am_cl y i st σ = none) (hs : am_simple L xs d y i pc ls st σ = none) :
    am_Rn L xs d y pc ls st σ Q = False := by
  have e : ∀ n, am_run L xs (n + 1) d y pc ls st σ = none := by
    intro n
    show am_body L xs (am_run L xs n) d y pc ls st σ = _
    unfold am_body
    rw [hd]
    dsimp only
    rw [if_neg (by rw [hl]; decide), hr]
    dsimp only
    rw [hc]
    dsimp only
    rw [hs]
  apply propext
  refine ⟨?_, fun h => h.elim⟩
  rintro ⟨n, r, σ', h, hq⟩
  cases n with
  | zero => cases h
  | succ n => rw [e] at h; cases h
theorem am_cnd {i : Instr} {len pc' : Nat} {ls' st' : List Value} {σ1 : am_S} {cnd : Prop} (hd : decode (pg_code y) pc = .ok (i, len)) (hl : am_lo i len = true) (hr : am_ret y i st = none) (hc : am_cl y i st σ = none)
    (ht : cnd → am_simple L xs d y i pc ls st σ = some (pc', ls', st', σ1)) (hf : ¬ cnd → am_simple L xs d y i pc ls st σ = none) : am_Rn L xs d y pc ls st σ Q = (cnd ∧ am_Rn L xs d y pc' ls' st' σ1 Q) := by
  by_cases h : cnd
  · rw [am_step hd hl hr hc (ht h)]
    exact propext ⟨fun q => ⟨h, q⟩, fun q => q.2⟩
  · rw [am_stuck hd hl hr hc (hf h)]
    exact propext ⟨fun q => q.elim, fun q => h q.1⟩
/-- reading the locals -/
def am_li (ls : List Value) (k : Nat) (f : Int32 → Prop) : Prop := match ls[k]? with
  | some (.int x) => f x
  | _ => False
def am_la (ls : List Value) (k : Nat) (f : Value → Prop) : Prop := match ls[k]? with
  | some (.ref x) => f (.ref x)
  | some .null => f .null
  | some (.float x) => f (.float x)
  | _ => False
def am_fd (σ : am_S) (p ci k : Nat) (f : Value → Prop) : Prop := match σ[p]? with
  | some (.inr (ci', fs)) => ci' = ci ∧ (match fs[k]? with
    | some v => f v
    | none => False)
  | _ => False
def am_ai (t : Nat) (σ : am_S) (p : Nat) (i : Int32) (f : Int32 → Prop) : Prop := match σ[p]? with
  | some (.inl (t', (n, .inl g))) => t' = t ∧ am_in i n = true ∧ f (g i.toNatClampNeg)
  | _ => False
def am_wi (t : Nat) (σ : am_S) (p : Nat) (i x : Int32) (f : am_S → Prop) : Prop := match σ[p]? with
  | some (.inl (t', (n, .inl g))) => t' = t ∧ am_in i n = true ∧ f (σ.set p (.inl (t, (n, .inl (upd g i.toNatClampNeg x)))))
  | _ => False
def am_ar2 (σ : am_S) (p : Nat) (i : Int32) (f : Nat → Prop) : Prop := match σ[p]? with
  | some (.inl (t', (n, .inr (.inr (.inr (.inr g)))))) => (t' = 2 ∨ t' = 3) ∧ am_in i n = true ∧ (match g i.toNatClampNeg with
    | some q => f q
    | none => False)
  | _ => False
def am_wf (y σo : Nat) (σ : am_S) (p ci k : Nat) (v : Value) (f : am_S → Prop) : Prop := match σ[p]? with
  | some (.inr (ci', fs)) => (ci' = ci ∧ k < fs.length ∧ am_fit (pg_fk ci k) v = true ∧ (pg_ff ci k = true → pg_ini y = true ∧ ci = σo)) ∧ f (σ.set p (.inr (ci, fs.set k v)))
  | _ => False
def am_ln (σ : am_S) (p : Nat) (f : Int32 → Prop) : Prop := match σ[p]? with
  | some (.inl (t, a)) => t < 4 ∧ f (Int32.ofNat a.1)
  | _ => False
theorem am_r_iconst {n : Int} {v : Int32} (hd : decode (pg_code y) pc = .ok (.iconst n, 1)) (hv : Int32.ofInt n = v) : am_Rn L xs d y pc ls st σ Q = am_Rn L xs d y (pc + 1) ls (.int v :: st) σ Q := by
  subst hv; exact am_step hd rfl rfl rfl rfl
theorem am_r_bipush {n : Int} {v : Int32} (hd : decode (pg_code y) pc = .ok (.bipush n, 2)) (hv : (Int8.ofInt n).toInt32 = v) : am_Rn L xs d y pc ls st σ Q = am_Rn L xs d y (pc + 2) ls (.int v :: st) σ Q := by
  subst hv; exact am_step hd rfl rfl rfl rfl
theorem am_r_sipush {n : Int} {v : Int32} (hd : decode (pg_code y) pc = .ok (.sipush n, 3)) (hv : (Int16.ofInt n).toInt32 = v) : am_Rn L xs d y pc ls st σ Q = am_Rn L xs d y (pc + 3) ls (.int v :: st) σ Q := by
  subst hv; exact am_step hd rfl rfl rfl rfl
theorem am_r_ldc {idx : Nat} {v : Int32} (hd : decode (pg_code y) pc = .ok (.ldc idx, 2)) (hv : pg_ldc (pg_own y) idx = some v) : am_Rn L xs d y pc ls st σ Q = am_Rn L xs d y (pc + 2) ls (.int v :: st) σ Q :=
  am_step hd rfl rfl rfl (by simp only [am_simple, hv])
theorem am_r_ldc_w {idx : Nat} {v : Int32} (hd : decode (pg_code y) pc = .ok (.ldc_w idx, 3)) (hv : pg_ldc (pg_own y) idx = some v) : am_Rn L xs d y pc ls st σ Q = am_Rn L xs d y (pc + 3) ls (.int v :: st) σ Q :=
  am_step hd rfl rfl rfl (by simp only [am_simple, hv])
theorem am_il_eq {i : Instr} {len k : Nat} (hd : decode (pg_code y) pc = .ok (i, len)) (hl : am_lo i len = true) (hr : am_ret y i st = none) (hc : am_cl y i st σ = none) (hs : am_simple L xs d y i pc ls st σ = am_il k (pc + len) ls st σ) :
    am_Rn L xs d y pc ls st σ Q = am_li ls k (fun x => am_Rn L xs d y (pc + len) ls (.int x :: st) σ Q) := by
  unfold am_li
  split
  next x h => exact am_step hd hl hr hc (by rw [hs]; simp only [am_il, h])
  next h =>
    refine am_stuck hd hl hr hc ?_
    rw [hs]
    unfold am_il
    split
    next x h2 => exact absurd h2 (h x)
    next => rfl
theorem am_r_iload_n {k : Fin 4} (hd : decode (pg_code y) pc = .ok (.iload_n k, 1)) : am_Rn L xs d y pc ls st σ Q = am_li ls k.val (fun x => am_Rn L xs d y (pc + 1) ls (.int x :: st) σ Q) := am_il_eq hd rfl rfl rfl rfl
theorem am_r_iload {k : Nat} (hd : decode (pg_code y) pc = .ok (.iload k, 2)) : am_Rn L xs d y pc ls st σ Q = am_li ls k (fun x => am_Rn L xs d y (pc + 2) ls (.int x :: st) σ Q) := am_il_eq hd rfl rfl rfl rfl
theorem am_al_eq {i : Instr} {len k : Nat} (hd : decode (pg_code y) pc = .ok (i, len)) (hl : am_lo i len = true) (hr : am_ret y i st = none) (hc : am_cl y i st σ = none) (hs : am_simple L xs d y i pc ls st σ = am_al k (pc + len) ls st σ) :
    am_Rn L xs d y pc ls st σ Q = am_la ls k (fun x => am_Rn L xs d y (pc + len) ls (x :: st) σ Q) := by
  unfold am_la
  split
  next x h => exact am_step hd hl hr hc (by rw [hs]; simp only [am_al, h])
  next h => exact am_step hd hl hr hc (by rw [hs]; simp only [am_al, h])
  next x h => exact am_step hd hl hr hc (by rw [hs]; simp only [am_al, h])
  next h1 h2 h3 =>
    refine am_stuck hd hl hr hc ?_
    rw [hs]
    unfold am_al
    split
    next x h => exact absurd h (h1 x)
    next h => exact absurd h h2
    next x h => exact absurd h (h3 x)
    next => rfl
theorem am_r_aload_n {k : Fin 4} (hd : decode (pg_code y) pc = .ok (.aload_n k, 1)) : am_Rn L xs d y pc ls st σ Q = am_la ls k.val (fun x => am_Rn L xs d y (pc + 1) ls (x :: st) σ Q) := am_al_eq hd rfl rfl rfl rfl
theorem am_r_aload {k : Nat} (hd : decode (pg_code y) pc = .ok (.aload k, 2)) : am_Rn L xs d y pc ls st σ Q = am_la ls k (fun x => am_Rn L xs d y (pc + 2) ls (x :: st) σ Q) := am_al_eq hd rfl rfl rfl rfl
theorem am_is_eq {i : Instr} {len k : Nat} {x : Int32} (hd : decode (pg_code y) pc = .ok (i, len)) (hl : am_lo i len = true) (hr : am_ret y i (.int x :: st) = none) (hc : am_cl y i (.int x :: st) σ = none) (hs : am_simple L xs d y i pc ls (.int x :: st) σ = am_is k (pc + len) ls (.int x :: st) σ) :
    am_Rn L xs d y pc ls (.int x :: st) σ Q = (k < ls.length ∧ am_Rn L xs d y (pc + len) (ls.set k (.int x)) st σ Q) := by
  exact am_cnd hd hl hr hc (fun h => by rw [hs]; simp only [am_is, h, if_true]) (fun h => by rw [hs]; simp only [am_is, h, if_false])
theorem am_r_istore_n {k : Fin 4} {x : Int32} (hd : decode (pg_code y) pc = .ok (.istore_n k, 1)) : am_Rn L xs d y pc ls (.int x :: st) σ Q = (k.val < ls.length ∧ am_Rn L xs d y (pc + 1) (ls.set k.val (.int x)) st σ Q) := am_is_eq hd rfl rfl rfl rfl
theorem am_r_istore {k : Nat} {x : Int32} (hd : decode (pg_code y) pc = .ok (.istore k, 2)) : am_Rn L xs d y pc ls (.int x :: st) σ Q = (k < ls.length ∧ am_Rn L xs d y (pc + 2) (ls.set k (.int x)) st σ Q) := am_is_eq hd rfl rfl rfl rfl
theorem am_as_eq {i : Instr} {len k x : Nat} (hd : decode (pg_code y) pc = .ok (i, len)) (hl : am_lo i len = true) (hr : am_ret y i (.ref x :: st) = none) (hc : am_cl y i (.ref x :: st) σ = none) (hs : am_simple L xs d y i pc ls (.ref x :: st) σ = am_as k (pc + len) ls (.ref x :: st) σ) :
    am_Rn L xs d y pc ls (.ref x :: st) σ Q = (k < ls.length ∧ am_Rn L xs d y (pc + len) (ls.set k (.ref x)) st σ Q) := by
  exact am_cnd hd hl hr hc (fun h => by rw [hs]; simp only [am_as, h, if_true]) (fun h => by rw [hs]; simp only [am_as, h, if_false])
theorem am_r_astore_n {k : Fin 4} {x : Nat} (hd : decode (pg_code y) pc = .ok (.astore_n k, 1)) : am_Rn L xs d y pc ls (.ref x :: st) σ Q = (k.val < ls.length ∧ am_Rn L xs d y (pc + 1) (ls.set k.val (.ref x)) st σ Q) := am_as_eq hd rfl rfl rfl rfl
theorem am_r_astore {k x : Nat} (hd : decode (pg_code y) pc = .ok (.astore k, 2)) : am_Rn L xs d y pc ls (.ref x :: st) σ Q = (k < ls.length ∧ am_Rn L xs d y (pc + 2) (ls.set k (.ref x)) st σ Q) := am_as_eq hd rfl rfl rfl rfl
theorem am_r_iinc {k : Nat} {n : Int} {v : Int32} (hd : decode (pg_code y) pc = .ok (.iinc k n, 3)) (hv : Int32.ofInt n = v) : am_Rn L xs d y pc ls st σ Q = am_li ls k (fun x => am_Rn L xs d y (pc + 3) (ls.set k (.int (x + v))) st σ Q) := by
  subst hv
  unfold am_li
  split
  next x h => exact am_step hd rfl rfl rfl (by simp only [am_simple, am_inc, h])
  next h =>
    refine am_stuck hd rfl rfl rfl ?_
    simp only [am_simple]
    unfold am_inc
    split
    next x h2 => exact absurd h2 (h x)
    next => rfl
theorem am_r_iadd {a b : Int32} (hd : decode (pg_code y) pc = .ok (.iadd, 1)) : am_Rn L xs d y pc ls (.int b :: .int a :: st) σ Q = am_Rn L xs d y (pc + 1) ls (.int (a + b) :: st) σ Q := am_step hd rfl rfl rfl rfl
theorem am_r_isub {a b : Int32} (hd : decode (pg_code y) pc = .ok (.isub, 1)) : am_Rn L xs d y pc ls (.int b :: .int a :: st) σ Q = am_Rn L xs d y (pc + 1) ls (.int (a - b) :: st) σ Q := am_step hd rfl rfl rfl rfl
theorem am_r_imul {a b : Int32} (hd : decode (pg_code y) pc = .ok (.imul, 1)) : am_Rn L xs d y pc ls (.int b :: .int a :: st) σ Q = am_Rn L xs d y (pc + 1) ls (.int (a * b) :: st) σ Q := am_step hd rfl rfl rfl rfl
theorem am_r_iand {a b : Int32} (hd : decode (pg_code y) pc = .ok (.iand, 1)) : am_Rn L xs d y pc ls (.int b :: .int a :: st) σ Q = am_Rn L xs d y (pc + 1) ls (.int (a &&& b) :: st) σ Q := am_step hd rfl rfl rfl rfl
theorem am_r_ior {a b : Int32} (hd : decode (pg_code y) pc = .ok (.ior, 1)) : am_Rn L xs d y pc ls (.int b :: .int a :: st) σ Q = am_Rn L xs d y (pc + 1) ls (.int (a ||| b) :: st) σ Q := am_step hd rfl rfl rfl rfl
theorem am_r_ixor {a b : Int32} (hd : decode (pg_code y) pc = .ok (.ixor, 1)) : am_Rn L xs d y pc ls (.int b :: .int a :: st) σ Q = am_Rn L xs d y (pc + 1) ls (.int (a ^^^ b) :: st) σ Q := am_step hd rfl rfl rfl rfl
theorem am_r_ishl {a b : Int32} (hd : decode (pg_code y) pc = .ok (.ishl, 1)) : am_Rn L xs d y pc ls (.int b :: .int a :: st) σ Q = am_Rn L xs d y (pc + 1) ls (.int (a <<< (b &&& 31)) :: st) σ Q := am_step hd rfl rfl rfl rfl
theorem am_r_ishr {a b : Int32} (hd : decode (pg_code y) pc = .ok (.ishr, 1)) : am_Rn L xs d y pc ls (.int b :: .int a :: st) σ Q = am_Rn L xs d y (pc + 1) ls (.int (a >>> (b &&& 31)) :: st) σ Q := am_step hd rfl rfl rfl rfl
theorem am_r_iushr {a b : Int32} (hd : decode (pg_code y) pc = .ok (.iushr, 1)) : am_Rn L xs d y pc ls (.int b :: .int a :: st) σ Q = am_Rn L xs d y (pc + 1) ls (.int ((a.toUInt32 >>> (b.toUInt32 &&& Int32.toUInt32 31)).toInt32) :: st) σ Q := am_step hd rfl rfl rfl rfl
theorem am_r_ineg {a : Int32} (hd : decode (pg_code y) pc = .ok (.ineg, 1)) : am_Rn L xs d y pc ls (.int a :: st) σ Q = am_Rn L xs d y (pc + 1) ls (.int (-a) :: st) σ Q := am_step hd rfl rfl rfl rfl
theorem am_r_idiv {a b : Int32} (hd : decode (pg_code y) pc = .ok (.idiv, 1)) : am_Rn L xs d y pc ls (.int b :: .int a :: st) σ Q = (b ≠ 0 ∧ am_Rn L xs d y (pc + 1) ls (.int (a / b) :: st) σ Q) := by
  exact am_cnd hd rfl rfl rfl (fun h => by simp only [am_simple, am_dv]; rw [if_neg h]) (fun h => by simp only [am_simple, am_dv]; rw [if_pos (Classical.not_not.mp h)])
theorem am_r_irem {a b : Int32} (hd : decode (pg_code y) pc = .ok (.irem, 1)) : am_Rn L xs d y pc ls (.int b :: .int a :: st) σ Q = (b ≠ 0 ∧ am_Rn L xs d y (pc + 1) ls (.int (a - a / b * b) :: st) σ Q) := by
  exact am_cnd hd rfl rfl rfl (fun h => by simp only [am_simple, am_dv]; rw [if_neg h]) (fun h => by simp only [am_simple, am_dv]; rw [if_pos (Classical.not_not.mp h)])
theorem am_r_dup {a : Value} (hd : decode (pg_code y) pc = .ok (.dup, 1)) : am_Rn L xs d y pc ls (a :: st) σ Q = (am_ok a = true ∧ am_Rn L xs d y (pc + 1) ls (a :: a :: st) σ Q) := by
  exact am_cnd hd rfl rfl rfl (fun h => by simp only [am_simple, am_d0]; rw [if_pos h]) (fun h => by simp only [am_simple, am_d0]; rw [if_neg h])
theorem am_r_pop {a : Value} (hd : decode (pg_code y) pc = .ok (.pop, 1)) : am_Rn L xs d y pc ls (a :: st) σ Q = (am_ok a = true ∧ am_Rn L xs d y (pc + 1) ls st σ Q) := by
  exact am_cnd hd rfl rfl rfl (fun h => by simp only [am_simple, am_po]; rw [if_pos h]) (fun h => by simp only [am_simple, am_po]; rw [if_neg h])
theorem am_r_dup_x1 {a b : Value} (hd : decode (pg_code y) pc = .ok (.dup_x1, 1)) : am_Rn L xs d y pc ls (a :: b :: st) σ Q = ((am_ok a && am_ok b) = true ∧ am_Rn L xs d y (pc + 1) ls (a :: b :: a :: st) σ Q) := by
  exact am_cnd hd rfl rfl rfl (fun h => by simp only [am_simple, am_d1]; rw [if_pos h]) (fun h => by simp only [am_simple, am_d1]; rw [if_neg h])
theorem am_r_dup_x2 {a b b2 : Value} (hd : decode (pg_code y) pc = .ok (.dup_x2, 1)) : am_Rn L xs d y pc ls (a :: b :: b2 :: st) σ Q = ((am_ok a && am_ok b && am_ok b2) = true ∧ am_Rn L xs d y (pc + 1) ls (a :: b :: b2 :: a :: st) σ Q) := by
  exact am_cnd hd rfl rfl rfl (fun h => by simp only [am_simple, am_dx]; rw [if_pos h]) (fun h => by simp only [am_simple, am_dx]; rw [if_neg h])
theorem am_r_dup2 {a b : Value} (hd : decode (pg_code y) pc = .ok (.dup2, 1)) : am_Rn L xs d y pc ls (a :: b :: st) σ Q = ((am_ok a && am_ok b) = true ∧ am_Rn L xs d y (pc + 1) ls (a :: b :: a :: b :: st) σ Q) := by
  exact am_cnd hd rfl rfl rfl (fun h => by simp only [am_simple, am_d2]; rw [if_pos h]) (fun h => by simp only [am_simple, am_d2]; rw [if_neg h])
theorem am_r_if {c : Jvm.ClassFile.Cond} {off : Int} {t : Nat} {x : Int32} (hd : decode (pg_code y) pc = .ok (.ifCond c off, 3)) (ht : (pc : Int) + off = (t : Int)) : am_Rn L xs d y pc ls (.int x :: st) σ Q = if am_cond c x 0 = true then am_Rn L xs d y t ls st σ Q else am_Rn L xs d y (pc + 3) ls st σ Q := by
  have h1 : am_to pc off = t := by unfold am_to; rw [ht]; rfl
  have h2 : (pc : Int) + off = ((am_to pc off : Nat) : Int) := by rw [h1]; exact ht
  by_cases h : am_cond c x 0 = true
  · rw [if_pos h, ← h1]
    exact am_step hd rfl rfl rfl (by simp only [am_simple, am_if]; rw [if_pos h2, if_pos h])
  · rw [if_neg h]
    exact am_step hd rfl rfl rfl (by simp only [am_simple, am_if]; rw [if_pos h2, if_neg h])
theorem am_r_icmp {c : Jvm.ClassFile.Cond} {off : Int} {t : Nat} {x z : Int32} (hd : decode (pg_code y) pc = .ok (.if_icmp c off, 3)) (ht : (pc : Int) + off = (t : Int)) : am_Rn L xs d y pc ls (.int z :: .int x :: st) σ Q = if am_cond c x z = true then am_Rn L xs d y t ls st σ Q else am_Rn L xs d y (pc + 3) ls st σ Q := by
  have h1 : am_to pc off = t := by unfold am_to; rw [ht]; rfl
  have h2 : (pc : Int) + off = ((am_to pc off : Nat) : Int) := by rw [h1]; exact ht
  by_cases h : am_cond c x z = true
  · rw [if_pos h, ← h1]
    exact am_step hd rfl rfl rfl (by simp only [am_simple, am_ic]; rw [if_pos h2, if_pos h])
  · rw [if_neg h]
    exact am_step hd rfl rfl rfl (by simp only [am_simple, am_ic]; rw [if_pos h2, if_neg h])
theorem am_r_goto {off : Int} {t : Nat} (hd : decode (pg_code y) pc = .ok (.goto off, 3)) (ht : (pc : Int) + off = (t : Int)) : am_Rn L xs d y pc ls st σ Q = am_Rn L xs d y t ls st σ Q := by
  have h1 : am_to pc off = t := by unfold am_to; rw [ht]; rfl
  have h2 : (pc : Int) + off = ((am_to pc off : Nat) : Int) := by rw [h1]; exact ht
  rw [← h1]
  exact am_step hd rfl rfl rfl (by simp only [am_simple, am_j]; rw [if_pos h2])
theorem am_r_getfield {idx p ci k : Nat} (hd : decode (pg_code y) pc = .ok (.getfield idx, 3)) (hf : pg_fld (pg_own y) idx = some (ci, k)) : am_Rn L xs d y pc ls (.ref p :: st) σ Q = am_fd σ p ci k (fun v => am_Rn L xs d y (pc + 3) ls (v :: st) σ Q) := by
  unfold am_fd
  split
  next ci' fs h =>
    split
    next v hv =>
      exact am_cnd hd rfl rfl rfl (fun hc => by simp only [am_simple, am_gf, hf, h]; rw [if_pos hc, hv]) (fun hc => by simp only [am_simple, am_gf, hf, h]; rw [if_neg hc])
    next hv =>
      rw [and_false]
      refine am_stuck hd rfl rfl rfl ?_
      simp only [am_simple, am_gf, hf, h]
      split
      · rw [hv]
      · rfl
  next h =>
    refine am_stuck hd rfl rfl rfl ?_
    simp only [am_simple, am_gf, hf]
    split
    next ci2 k2 ci' fs h1 h2 => exact absurd h2 (h ci' fs)
    next => rfl
theorem am_r_putfield {idx p ci k : Nat} {v : Value} (hd : decode (pg_code y) pc = .ok (.putfield idx, 3)) (hf : pg_fld (pg_own y) idx = some (ci, k)) : am_Rn L xs d y pc ls (v :: .ref p :: st) σ Q = am_wf y (pg_own y) σ p ci k v (fun σ1 => am_Rn L xs d y (pc + 3) ls st σ1 Q) := by
  unfold am_wf
  split
  next ci' fs h =>
    exact am_cnd hd rfl rfl rfl (fun hc => by simp only [am_simple, am_pf, hf, h]; rw [if_pos hc]) (fun hc => by simp only [am_simple, am_pf, hf, h]; rw [if_neg hc])
  next h =>
    refine am_stuck hd rfl rfl rfl ?_
    simp only [am_simple, am_pf, hf]
    split
    next ci2 k2 ci' fs h1 h2 => exact absurd h2 (h ci' fs)
    next => rfl
end amO
