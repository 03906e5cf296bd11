/-! Evaluation: locals, switches -/
theorem am_li0 {x : Int32} {r : List Value} {f : Int32 → Prop} : am_li (.int x :: r) 0 f = f x := rfl
theorem am_liS {v : Value} {r : List Value} {n : Nat} {f : Int32 → Prop} : am_li (v :: r) (n + 1) f = am_li r n f := rfl
theorem am_laR0 {x : Nat} {r : List Value} {f : Value → Prop} : am_la (.ref x :: r) 0 f = f (.ref x) := rfl
theorem am_laF0 {x : UInt32} {r : List Value} {f : Value → Prop} : am_la (.float x :: r) 0 f = f (.float x) := rfl
theorem am_laS {v : Value} {r : List Value} {n : Nat} {f : Value → Prop} : am_la (v :: r) (n + 1) f = am_la r n f := rfl
theorem am_okI (x : Int32) : am_ok (.int x) = true := rfl
theorem am_okR (x : Nat) : am_ok (.ref x) = true := rfl
theorem am_tL (v : Value) (st : List Value) : (some v).toList ++ st = v :: st := rfl
theorem am_tN (st : List Value) : (none : Option Value).toList ++ st = st := rfl
section amT
variable {L : Nat} {xs : Nat → Int32} {d y pc : Nat} {ls st : List Value} {σ : am_S} {Q : Option Value → am_S → Prop}
theorem am_r_tsOut {dflt lo hi : Int} {offs : Array Int} {len t : Nat} {x : Int32} (hd : decode (pg_code y) pc = .ok (.tableswitch dflt lo hi offs, len)) (h : x.toInt < lo ∨ hi < x.toInt) (ht : (pc : Int) + dflt = (t : Int)) : am_Rn L xs d y pc ls (.int x :: st) σ Q = am_Rn L xs d y t ls st σ Q := by
  have h1 : am_to pc dflt = t := by unfold am_to; rw [ht]; rfl
  have h2 : (pc : Int) + dflt = ((am_to pc dflt : Nat) : Int) := by rw [h1]; exact ht
  rw [← h1]
  exact am_step hd rfl rfl rfl (by simp only [am_simple, am_ts]; rw [if_pos h]; unfold am_j; rw [if_pos h2])
theorem am_r_tsIn {dflt lo hi off : Int} {offs : Array Int} {len t : Nat} {x : Int32} (hd : decode (pg_code y) pc = .ok (.tableswitch dflt lo hi offs, len)) (h : ¬ (x.toInt < lo ∨ hi < x.toInt)) (ho : offs[(x.toInt - lo).toNat]? = some off) (ht : (pc : Int) + off = (t : Int)) : am_Rn L xs d y pc ls (.int x :: st) σ Q = am_Rn L xs d y t ls st σ Q := by
  have h1 : am_to pc off = t := by unfold am_to; rw [ht]; rfl
  have h2 : (pc : Int) + off = ((am_to pc off : Nat) : Int) := by rw [h1]; exact ht
  rw [← h1]
  exact am_step hd rfl rfl rfl (by simp only [am_simple, am_ts]; rw [if_neg h, ho]; dsimp only; unfold am_j; rw [if_pos h2])
end amT
/-- the store at a moment: the numbers in the arrays, the numbers in the fields, the places in the fields -/
abbrev St : Type := (Nat → Nat → Int32) × (Nat → Nat → Int32) × (Nat → Nat → Nat)
def in_B : Nat → Nat → Option Nat := match in_run2 with
  | some (_, σ) => in_gB σ
  | none => fun _ _ => none
def mk (s : St) : am_S := am_mk in_sk s.1 in_B s.2.1 s.2.2
theorem mk_len (s : St) : (mk s).length = 156 := by
  unfold mk am_mk
  rw [List.length_mapIdx]
  rfl
def in_z (h : am_H) : Nat := match h with
  | .inl (_, n) => n
  | .inr (.inl (_, n)) => n
  | .inr (.inr (_, fs)) => fs.length
theorem am_mk_ns (sk : List am_H) (A : Nat → Nat → Int32) (B : Nat → Nat → Option Nat) (F : Nat → Nat → Int32) (G : Nat → Nat → Nat) : am_ns (am_mk sk A B F G) = (sk.map in_z).sum := by
  unfold am_ns am_mk
  congr 1
  apply List.ext_getElem?
  intro p
  rw [List.getElem?_map, List.getElem?_mapIdx, List.getElem?_map]
  cases sk[p]? with
  | none => rfl
  | some h =>
    obtain ⟨t, n⟩ | ⟨t, n⟩ | ⟨ci, fs⟩ := h
    · rfl
    · rfl
    · simp [am_mc, am_z, in_z]
theorem mk_ns (s : St) : am_ns (mk s) = (in_sk.map in_z).sum := am_mk_ns _ _ _ _ _
theorem mk_ns_le : (in_sk.map in_z).sum ≤ 7302250 := by decide +kernel
theorem mk_oc {s : St} {p ci : Nat} {fs : List (Nat ⊕ Nat)} (h : in_sk[p]? = some (.inr (.inr (ci, fs)))) : am_oc (mk s) p = ci := by
  unfold am_oc mk
  rw [am_mk_at h]
  rfl
/-- one call on both sides: both answer r; what comes holds J -/
def op_ok (L : Nat) (xs : Nat → Int32) (z1 z2 : Nat) (as : List Value) (s : St) (J : St → Prop) : Prop :=
  ∃ (r : Int32) (s1 s2 : St), (∀ Q : Option Value → am_S → Prop, Q (some (.int r)) (mk s1) → am_Call L xs 99 z1 (.ref 0 :: as) (mk s) Q) ∧ (∀ Q : Option Value → am_S → Prop, Q (some (.int r)) (mk s2) → am_Call L xs 99 z2 (.ref 121 :: as) (mk s1) Q) ∧ J s2
