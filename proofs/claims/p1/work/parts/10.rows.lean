/-! Rows of the abstract machine: what runs from an instruction is what runs from the next -/
theorem am_body_mono {L : Nat} {xs : Nat → Int32} {f g : Nat → Nat → Nat → List Value → List Value → am_S → Option (Option Value × am_S)} (hfg : ∀ d y pc ls st σ v, f d y pc ls st σ = some v → g d y pc ls st σ = some v)
    {d y pc : Nat} {ls st : List Value} {σ : am_S} {v : Option Value × am_S} (h : am_body L xs f d y pc ls st σ = some v) : am_body L xs g d y pc ls st σ = some v := by
  unfold am_body at h ⊢
  cases hd : decode (pg_code y) pc with
  | error _ => rw [hd] at h; cases h
  | ok w =>
    obtain ⟨i, len⟩ := w
    rw [hd] at h
    dsimp only at h ⊢
    by_cases hl : am_lo i len = false
    · rw [if_pos hl] at h; cases h
    · rw [if_neg hl] at h ⊢
      cases hr : am_ret y i st with
      | some r => rw [hr] at h; exact h
      | none =>
        rw [hr] at h
        dsimp only at h ⊢
        cases hc : am_cl y i st σ with
        | some w =>
          obtain ⟨z, as, rest⟩ := w
          rw [hc] at h
          dsimp only at h ⊢
          by_cases ho : as.all am_ok = true ∧ as.length ≤ pg_maxL z
          · rw [if_pos ho] at h ⊢
            cases d with
            | zero => cases h
            | succ d' =>
              dsimp only at h ⊢
              cases hf : f d' z 0 (am_en z as) [] σ with
              | none => rw [hf] at h; cases h
              | some w =>
                obtain ⟨r, σ1⟩ := w
                rw [hf] at h
                rw [hfg _ _ _ _ _ _ _ hf]
                exact hfg _ _ _ _ _ _ _ h
          · rw [if_neg ho] at h; cases h
        | none =>
          rw [hc] at h
          dsimp only at h ⊢
          cases hs : am_simple L xs d y i pc ls st σ with
          | none => rw [hs] at h; cases h
          | some w =>
            obtain ⟨pc', ls', st', σ1⟩ := w
            rw [hs] at h
            exact hfg _ _ _ _ _ _ _ h
theorem am_mono1 {L : Nat} {xs : Nat → Int32} : ∀ (n d y pc : Nat) (ls st : List Value) (σ : am_S) (v : Option Value × am_S), am_run L xs n d y pc ls st σ = some v → am_run L xs (n + 1) d y pc ls st σ = some v
  | 0, _, _, _, _, _, _, _, h => by cases h
  | n + 1, _, _, _, _, _, _, _, h => am_body_mono (am_mono1 n) h
theorem am_mono {L : Nat} {xs : Nat → Int32} {n d y pc : Nat} {ls st : List Value} {σ : am_S} {v : Option Value × am_S} (h : am_run L xs n d y pc ls st σ = some v) : ∀ k, am_run L xs (n + k) d y pc ls st σ = some v
  | 0 => h
  | k + 1 => am_mono1 _ _ _ _ _ _ _ _ (am_mono h k)
section amRows
variable {L : Nat} {xs : Nat → Int32} {d y pc : Nat} {ls st : List Value} {σ : am_S} {Q : Option Value → am_S → Prop}
theorem am_step {i : Instr} {len pc' : Nat} {ls' st' : List Value} {σ1 : am_S} (hd : decode (pg_code y) pc = .ok (i, len)) (hl : am_lo i len = true) (hr : am_ret y i st = none) (hc : am_cl y i st σ = none) (hs : am_simple L xs d y i pc ls st σ = some (pc', ls', st', σ1)) :
    am_Rn L xs d y pc ls st σ Q = am_Rn L xs d y pc' ls' st' σ1 Q := by
  have e : ∀ n, am_run L xs (n + 1) d y pc ls st σ = am_run L xs n d y pc' ls' st' σ1 := by
    intro n
    show am_body L xs (am_run L xs n) d y pc ls st σ = _
    unfold am_body
    rw [hd]
    dsimp only
    rw [if_neg (by rw [hl]; decide), hr]
    dsimp only
    rw [hc]
    dsimp only
    rw [hs]
  apply propext
  constructor
  · rintro ⟨n, r, σ', h, hq⟩
    cases n with
    | zero => cases h
    | succ n => exact ⟨n, r, σ', by rw [← e]; exact h, hq⟩
  · rintro ⟨n, r, σ', h, hq⟩
    exact ⟨n + 1, r, σ', by rw [e]; exact h, hq⟩
theorem am_call {i : Instr} {len z : Nat} {as rest : List Value} (hd : decode (pg_code y) pc = .ok (i, len)) (hl : am_lo i len = true) (hr : am_ret y i st = none) (hc : am_cl y i st σ = some (z, as, rest)) (ho : as.all am_ok = true ∧ as.length ≤ pg_maxL z) :
    am_Rn L xs (d + 1) y pc ls st σ Q = am_Rn L xs d z 0 (am_en z as) [] σ (fun r σ1 => am_Rn L xs (d + 1) y (pc + 3) ls (r.toList ++ rest) σ1 Q) := by
  have e : ∀ n, am_run L xs (n + 1) (d + 1) y pc ls st σ = (match am_run L xs n d z 0 (am_en z as) [] σ with
      | none => none
      | some (r, σ1) => am_run L xs n (d + 1) y (pc + 3) ls (r.toList ++ rest) σ1) := by
    intro n
    show am_body L xs (am_run L xs n) (d + 1) y pc ls st σ = _
    unfold am_body
    rw [hd]
    dsimp only
    rw [if_neg (by rw [hl]; decide), hr]
    dsimp only
    rw [hc]
    dsimp only
    rw [if_pos ho]
    all_goals (cases am_run L xs n d z 0 (am_en z as) [] σ <;> rfl)
  apply propext
  constructor
  · rintro ⟨n, r, σ', h, hq⟩
    cases n with
    | zero => cases h
    | succ n =>
      rw [e] at h
      cases hf : am_run L xs n d z 0 (am_en z as) [] σ with
      | none => rw [hf] at h; cases h
      | some w =>
        obtain ⟨r1, σ1⟩ := w
        rw [hf] at h
        exact ⟨n, r1, σ1, hf, n, r, σ', h, hq⟩
  · rintro ⟨n, r1, σ1, hf, k, r, σ', h, hq⟩
    refine ⟨n + k + 1, r, σ', ?_, hq⟩
    rw [e, am_mono hf k]
    dsimp only
    rw [Nat.add_comm n k]
    exact am_mono h n
theorem am_end {i : Instr} {len : Nat} {r : Option Value} (hd : decode (pg_code y) pc = .ok (i, len)) (hl : am_lo i len = true) (hr : am_ret y i st = some r) : am_Rn L xs d y pc ls st σ Q = Q r σ := by
  have e : ∀ n, am_run L xs (n + 1) d y pc ls st σ = some (r, σ) := by
    intro n
    show am_body L xs (am_run L xs n) d y pc ls st σ = _
    unfold am_body
    rw [hd]
    dsimp only
    rw [if_neg (by rw [hl]; decide), hr]
  apply propext
  constructor
  · rintro ⟨n, r', σ', h, hq⟩
    cases n with
    | zero => cases h
    | succ n =>
      rw [e] at h
      obtain ⟨rfl, rfl⟩ := Prod.mk.inj (Option.some.inj h)
      exact hq
  · intro hq
    exact ⟨1, r, σ, e 0, hq⟩
end amRows
