/-! The store only grows -/
theorem am_j_same {pc : Nat} {off : Int} {ls st ls' st' : List Value} {σ σ1 : am_S} {pc' : Nat} (h : am_j pc off ls st σ = some (pc', ls', st', σ1)) : σ1 = σ := by
  unfold am_j at h
  split at h
  · simp at h; exact h.2.2.2.symm
  · cases h
set_option maxHeartbeats 4000000 in
theorem am_grow {L : Nat} {xs : Nat → Int32} {d y pc pc' : Nat} {i : Instr} {ls st ls' st' : List Value} {σ σ1 : am_S} (h : am_simple L xs d y i pc ls st σ = some (pc', ls', st', σ1)) : σ.length ≤ σ1.length ∧ am_ns σ ≤ am_ns σ1 := by
  have same : σ1 = σ → σ.length ≤ σ1.length ∧ am_ns σ ≤ am_ns σ1 := fun e => by rw [e]; exact ⟨Nat.le_refl _, Nat.le_refl _⟩
  have app : ∀ τ, σ1 = σ ++ τ → σ.length ≤ σ1.length ∧ am_ns σ ≤ am_ns σ1 := fun τ e => by rw [e, List.length_append, am_ns_app]; exact ⟨Nat.le_add_right _ _, Nat.le_add_right _ _⟩
  have put : ∀ (k : Nat) (x x' : am_E), σ[k]? = some x → am_z x' = am_z x → σ1 = σ.set k x' → σ.length ≤ σ1.length ∧ am_ns σ ≤ am_ns σ1 := fun k x x' h1 h2 e => by rw [e, List.length_set, am_ns_set h1 h2]; exact ⟨Nat.le_refl _, Nat.le_refl _⟩
  cases i <;> simp only [am_simple] at h <;> try (cases h; done)
  all_goals first
    | (simp only [Option.some.injEq, Prod.mk.injEq] at h; exact same h.2.2.2.symm)
    | exact same (am_j_same h)
    | skip
  all_goals try simp only [am_il, am_al, am_is, am_as, am_inc, am_ii, am_dv, am_ng, am_d0, am_po, am_d1, am_dx, am_d2, am_if, am_ic, am_ts, am_lk, am_gf, am_pf, am_ild, am_ist, am_zld, am_zst, am_ald, am_ast, am_len, am_new, am_na, am_ar, am_ma, am_spc, am_sp] at h
  all_goals repeat' split at h
  all_goals first
    | (cases h; done)
    | exact same (am_j_same h)
    | (simp only [Option.some.injEq, Prod.mk.injEq] at h
       first
       | exact same h.2.2.2.symm
       | exact app _ h.2.2.2.symm
       | exact put _ _ _ (by assumption) (by simp [am_z]) h.2.2.2.symm)
theorem am_rgrow {L : Nat} {xs : Nat → Int32} : ∀ (n d y pc : Nat) (ls st : List Value) (σ : am_S) (r : Option Value) (σ' : am_S), am_run L xs n d y pc ls st σ = some (r, σ') → σ.length ≤ σ'.length ∧ am_ns σ ≤ am_ns σ'
  | 0, _, _, _, _, _, _, _, _, h => by cases h
  | n + 1, d, y, pc, ls, st, σ, r, σ', h => by
    unfold am_run am_body at h
    split at h
    next => cases h
    next i len hd =>
      split at h
      next => cases h
      next =>
        split at h
        next =>
          simp only [Option.some.injEq, Prod.mk.injEq] at h
          rw [h.2]; exact ⟨Nat.le_refl _, Nat.le_refl _⟩
        next =>
          split at h
          next z as rest hcl =>
            split at h
            next =>
              split at h
              next => cases h
              next d' =>
                split at h
                next => cases h
                next r1 σ1 h1 =>
                  have a := am_rgrow n _ _ _ _ _ _ _ _ h1
                  have b := am_rgrow n _ _ _ _ _ _ _ _ h
                  exact ⟨Nat.le_trans a.1 b.1, Nat.le_trans a.2 b.2⟩
            next => cases h
          next =>
            split at h
            next pc' ls' st' σ1 h1 =>
              have a := am_grow h1
              have b := am_rgrow n _ _ _ _ _ _ _ _ h
              exact ⟨Nat.le_trans a.1 b.1, Nat.le_trans a.2 b.2⟩
            next => cases h
/-- what a method's end says -/
def am_Q (bs hz : Nat) (dC : Nat → ClassId) (dI : Nat → Nat → Nat) (dA : Nat → ClassId) (r : Option Value) (σ : am_S) : Array Value → State → Outcome → State → Prop := fun _ st o t =>
  o = .returned (r.map (am_cv bs hz)) ∧ va_P (dC, dI) pg_cl (am_w bs hz dA σ) t.heap ∧ ∀ q : Nat, q < hz → t.heap[q]? = st.heap[q]?
/-- a method's start -/
def am_Pc (bs hz : Nat) (dC : Nat → ClassId) (dI : Nat → Nat → Nat) (dA : Nat → ClassId) (L : Nat) (xs : Nat → Int32) (as : List Value) (σ : am_S) : Array Value → State → Prop := fun v U =>
  v = (as.map (am_cv bs hz)).toArray ∧ U.heap.size = hz + σ.length ∧ va_P (dC, dI) pg_cl (am_w bs hz dA σ) U.heap ∧ va_K (dC, dI) pg_cl (pg_tys dA) U ∧ va_X bs L xs U U.heap ∧ am_X0 U
theorem am_blind (bs hz : Nat) (dC : Nat → ClassId) (dI : Nat → Nat → Nat) (dA : Nat → ClassId) (L : Nat) (xs : Nat → Int32) (as : List Value) (σ : am_S) : FrameBlind (am_Pc bs hz dC dI dA L xs as σ) := by
  intro a U g mk h
  obtain ⟨h1, h2, h3, h4, h5, h6⟩ := h
  exact ⟨h1, h2, h3, va_K.moved (u := U) (U := U.calling g mk a) (Vm.Alike.refl U.vm) h4, va_X.moved (u := U) (U := U.calling g mk a) (Vm.Alike.refl U.vm) h5, am_X0.same (u := U) (U := U.calling g mk a) rfl h6⟩
section amR
variable {p : Program} {l : Launch} {e : Env} {R : Room} {s : State} {m : MethodId} {args : Array Value} {below : List Frame} {meth : Method} {c : Code} {H : Heap} {locs : List Loc} {cells slots : Nat} {Q : State → Prop}
variable {bs hz : Nat} {dC : Nat → ClassId} {dI : Nat → Nat → Nat} {dA : Nat → ClassId} {L : Nat} {xs : Nat → Int32}
theorem am_pre {as : List Value} {σ : am_S} (hK : va_K (dC, dI) pg_cl (pg_tys dA) s) (hX : va_X bs L xs s s.heap) (hx0 : am_X0 s) (hbs : bs < hz) (hh : hz ≤ s.heap.size) (hD : am_Dy bs hz dC dI dA s H locs cells σ) (hsz : H.size = hz + σ.length) :
    ∀ U : State, U.heap = H → s.WarmedH U.vm → am_Pc bs hz dC dI dA L xs as σ (as.map (am_cv bs hz)).toArray U := by
  intro U hU hW
  refine ⟨rfl, by rw [hU]; exact hsz, by rw [hU]; exact hD.1, va_K.moved hW.alike hK, ?_, am_X0.warm hW hx0⟩
  rw [hU]
  refine va_X.moved hW.alike (hX.kept ?_)
  exact hD.2.1.2.1 bs (Nat.lt_of_lt_of_le hbs hh) (Nat.not_le.mpr hbs)
theorem am_back {σ1 : am_S} {r1 : Option Value} {mcc mss pc : Nat} {lsA : Array Slot} {stA restA : List Value} {arr : Array Value} {σ : am_S} (hh : hz ≤ s.heap.size) (hD : am_Dy bs hz dC dI dA s H locs cells σ) (hmc : mcc + σ.length = σ1.length)
    (hr : va_Run p l e R s m args below meth c H locs cells slots mcc mss (F0 m pc lsA stA) restA (am_Q bs hz dC dI dA r1 σ1 arr) (fun q => hz ≤ q))
    (kk : ∀ (H1 : Heap) (locs1 : List Loc), am_Dy bs hz dC dI dA s H1 locs1 (cells + mcc) σ1 → W p l e R s m args below meth c H1 locs1 (cells + mcc) (slots + mss) Q (F0 m (pc + 3) lsA ((r1.map (am_cv bs hz)).toList ++ restA))) :
    W p l e R s m args below meth c H locs cells slots Q (F0 m pc lsA stA) := by
  intro T hT X
  obtain ⟨v, st₀, t, T', LL, h0, X', hLL, e1, e2, ⟨hv, hP, hfr⟩, st⟩ := hr T hT X
  have hv2 : v = r1.map (am_cv bs hz) := Outcome.returned.inj hv
  subst hv2
  have hsz : s.heap.size ≤ T'.heap.size := X'.same.2.1
  obtain ⟨t2, a1, b1⟩ := kk T'.heap (locs ++ LL) ⟨by rw [e1]; exact hP, ⟨hsz, fun q h1 h2 => by
      rw [e1, hfr q (Nat.not_le.mp h2), h0]
      exact hD.2.1.2.1 q h1 h2, fun q hq => by
      rcases List.mem_append.mp hq with h | h
      · exact hD.2.1.2.2 q h
      · exact hLL q h⟩, by have := hD.2.2; omega⟩ T' rfl X'
  exact ⟨t2, st t2 a1, b1⟩
end amR
theorem am_map_toList (bs hz : Nat) (r : Option Value) (rest : List Value) : (r.map (am_cv bs hz)).toList ++ rest.map (am_cv bs hz) = (r.toList ++ rest).map (am_cv bs hz) := by
  cases r <;> simp
