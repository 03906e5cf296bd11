/-! The rows, continued: arrays, ends, calls -/
section amO
variable {L : Nat} {xs : Nat → Int32} {d y pc : Nat} {ls st : List Value} {σ : am_S} {Q : Option Value → am_S → Prop}
theorem am_r_iaload {p : Nat} {i : Int32} (hd : decode (pg_code y) pc = .ok (.iaload, 1)) : am_Rn L xs d y pc ls (.int i :: .ref p :: st) σ Q = am_ai 0 σ p i (fun x => am_Rn L xs d y (pc + 1) ls (.int x :: st) σ Q) := by
  unfold am_ai
  split
  next t n f h =>
    by_cases ht : t = 0
    · subst ht
      rw [eq_self, true_and]
      exact am_cnd hd rfl rfl rfl (fun hi => by simp only [am_simple, am_ild, h]; rw [if_pos hi]) (fun hi => by simp only [am_simple, am_ild, h]; rw [if_neg hi])
    · refine Eq.trans (am_stuck hd rfl rfl rfl ?_) (propext ⟨fun q => q.elim, fun q => ht q.1⟩)
      simp only [am_simple, am_ild, h]
      split
      next n2 f2 h2 =>
        simp only [Option.some.injEq, Sum.inl.injEq, Prod.mk.injEq] at h2
        exact absurd h2.1 ht
      next => rfl
  next h =>
    refine am_stuck hd rfl rfl rfl ?_
    simp only [am_simple, am_ild]
    split
    next n f h2 => exact absurd h2 (h _ _ _)
    next => rfl
theorem am_r_sload {b : UInt32} {i : Int32} (hd : decode (pg_code y) pc = .ok (.iaload, 1)) (hy : y = pg_num) : am_Rn L xs d y pc ls (.int i :: .float b :: st) σ Q = (am_in i L = true ∧ am_Rn L xs d y (pc + 1) ls (.int (xs i.toNatClampNeg) :: st) σ Q) := by
  exact am_cnd hd rfl rfl rfl (fun hi => by simp only [am_simple, am_ild, hy, if_true]; rw [if_pos hi]) (fun hi => by simp only [am_simple, am_ild, hy, if_true]; rw [if_neg hi])
theorem am_r_iastore {p : Nat} {i x : Int32} (hd : decode (pg_code y) pc = .ok (.iastore, 1)) : am_Rn L xs d y pc ls (.int x :: .int i :: .ref p :: st) σ Q = am_wi 0 σ p i x (fun σ1 => am_Rn L xs d y (pc + 1) ls st σ1 Q) := by
  unfold am_wi
  split
  next t n f h =>
    by_cases ht : t = 0
    · subst ht
      rw [eq_self, true_and]
      exact am_cnd hd rfl rfl rfl (fun hi => by simp only [am_simple, am_ist, h]; rw [if_pos hi]) (fun hi => by simp only [am_simple, am_ist, h]; rw [if_neg hi])
    · refine Eq.trans (am_stuck hd rfl rfl rfl ?_) (propext ⟨fun q => q.elim, fun q => ht q.1⟩)
      simp only [am_simple, am_ist, h]
      split
      next n2 f2 h2 =>
        simp only [Option.some.injEq, Sum.inl.injEq, Prod.mk.injEq] at h2
        exact absurd h2.1 ht
      next => rfl
  next h =>
    refine am_stuck hd rfl rfl rfl ?_
    simp only [am_simple, am_ist]
    split
    next n f h2 => exact absurd h2 (h _ _ _)
    next => rfl
theorem am_r_baload {p : Nat} {i : Int32} (hd : decode (pg_code y) pc = .ok (.baload, 1)) : am_Rn L xs d y pc ls (.int i :: .ref p :: st) σ Q = am_ai 1 σ p i (fun x => am_Rn L xs d y (pc + 1) ls (.int x :: st) σ Q) := by
  unfold am_ai
  split
  next t n f h =>
    by_cases ht : t = 1
    · subst ht
      rw [eq_self, true_and]
      exact am_cnd hd rfl rfl rfl (fun hi => by simp only [am_simple, am_zld, h]; rw [if_pos hi]) (fun hi => by simp only [am_simple, am_zld, h]; rw [if_neg hi])
    · refine Eq.trans (am_stuck hd rfl rfl rfl ?_) (propext ⟨fun q => q.elim, fun q => ht q.1⟩)
      simp only [am_simple, am_zld, h]
      split
      next n2 f2 h2 =>
        simp only [Option.some.injEq, Sum.inl.injEq, Prod.mk.injEq] at h2
        exact absurd h2.1 ht
      next => rfl
  next h =>
    refine am_stuck hd rfl rfl rfl ?_
    simp only [am_simple, am_zld]
    split
    next n f h2 => exact absurd h2 (h _ _ _)
    next => rfl
theorem am_r_bastore {p : Nat} {i x : Int32} (hd : decode (pg_code y) pc = .ok (.bastore, 1)) : am_Rn L xs d y pc ls (.int x :: .int i :: .ref p :: st) σ Q = am_wi 1 σ p i (vp_nar .boolean x) (fun σ1 => am_Rn L xs d y (pc + 1) ls st σ1 Q) := by
  unfold am_wi
  split
  next t n f h =>
    by_cases ht : t = 1
    · subst ht
      rw [eq_self, true_and]
      exact am_cnd hd rfl rfl rfl (fun hi => by simp only [am_simple, am_zst, h]; rw [if_pos hi]) (fun hi => by simp only [am_simple, am_zst, h]; rw [if_neg hi])
    · refine Eq.trans (am_stuck hd rfl rfl rfl ?_) (propext ⟨fun q => q.elim, fun q => ht q.1⟩)
      simp only [am_simple, am_zst, h]
      split
      next n2 f2 h2 =>
        simp only [Option.some.injEq, Sum.inl.injEq, Prod.mk.injEq] at h2
        exact absurd h2.1 ht
      next => rfl
  next h =>
    refine am_stuck hd rfl rfl rfl ?_
    simp only [am_simple, am_zst]
    split
    next n f h2 => exact absurd h2 (h _ _ _)
    next => rfl
theorem am_r_aaload {p : Nat} {i : Int32} (hd : decode (pg_code y) pc = .ok (.aaload, 1)) : am_Rn L xs d y pc ls (.int i :: .ref p :: st) σ Q = am_ar2 σ p i (fun q => am_Rn L xs d y (pc + 1) ls (.ref q :: st) σ Q) := by
  unfold am_ar2
  split
  next t n f h =>
    split
    next q hv =>
      have e := am_cnd (Q := Q) (cnd := am_in i n = true ∧ (t = 2 ∨ t = 3)) (L := L) (xs := xs) (d := d) (ls := ls) (σ := σ) (st := .int i :: .ref p :: st) hd rfl rfl rfl (fun hi => by simp only [am_simple, am_ald, h]; rw [if_pos hi, hv]) (fun hi => by simp only [am_simple, am_ald, h]; rw [if_neg hi])
      rw [e]
      exact propext ⟨fun q => ⟨q.1.2, q.1.1, q.2⟩, fun q => ⟨⟨q.2.1, q.1⟩, q.2.2⟩⟩
    next hv =>
      rw [and_false, and_false]
      refine am_stuck hd rfl rfl rfl ?_
      simp only [am_simple, am_ald, h]
      split
      · rw [hv]
      · rfl
  next h =>
    refine am_stuck hd rfl rfl rfl ?_
    simp only [am_simple, am_ald]
theorem am_r_arraylength {p : Nat} (hd : decode (pg_code y) pc = .ok (.arraylength, 1)) : am_Rn L xs d y pc ls (.ref p :: st) σ Q = am_ln σ p (fun x => am_Rn L xs d y (pc + 1) ls (.int x :: st) σ Q) := by
  unfold am_ln
  split
  next t a h =>
    exact am_cnd hd rfl rfl rfl (fun hi => by simp only [am_simple, am_len, h]; rw [if_pos hi]) (fun hi => by simp only [am_simple, am_len, h]; rw [if_neg hi])
  next h =>
    refine am_stuck hd rfl rfl rfl ?_
    simp only [am_simple, am_len]
theorem am_r_slen {b : UInt32} (hd : decode (pg_code y) pc = .ok (.arraylength, 1)) (hy : y = pg_num) : am_Rn L xs d y pc ls (.float b :: st) σ Q = am_Rn L xs d y (pc + 1) ls (.int (Int32.ofNat L) :: st) σ Q :=
  am_step hd rfl rfl rfl (by simp only [am_simple, am_len, hy, if_true])
theorem am_r_ireturn {v : Int32} (hd : decode (pg_code y) pc = .ok (.ireturn, 1)) (hk : pg_rk y = 1) : am_Rn L xs d y pc ls [.int v] σ Q = Q (some (.int v)) σ :=
  am_end hd rfl (by simp only [am_ret]; rw [if_pos (Or.inl hk)])
theorem am_r_zreturn {v : Int32} (hd : decode (pg_code y) pc = .ok (.ireturn, 1)) (hk : pg_rk y = 2) (hv : v = 0 ∨ v = 1) : am_Rn L xs d y pc ls [.int v] σ Q = Q (some (.int v)) σ :=
  am_end hd rfl (by simp only [am_ret]; rw [if_pos (Or.inr ⟨hk, hv⟩)])
theorem am_r_return (hd : decode (pg_code y) pc = .ok (.return_, 1)) (hk : pg_rk y = 0) : am_Rn L xs d y pc ls [] σ Q = Q none σ :=
  am_end hd rfl (by simp only [am_ret]; rw [if_pos hk])
/-- a call that comes back -/
def am_Call (L : Nat) (xs : Nat → Int32) (d z : Nat) (as : List Value) (σ : am_S) (Q : Option Value → am_S → Prop) : Prop := am_Rn L xs d z 0 (am_en z as) [] σ Q
theorem am_val {n z : Nat} {as : List Value} {r : Option Value} {σ1 : am_S} (h : am_run L xs n d z 0 (am_en z as) [] σ = some (r, σ1)) : am_Call L xs d z as σ Q = Q r σ1 := by
  apply propext
  constructor
  · rintro ⟨k, r2, σ2, h2, hq⟩
    have a := am_mono h k
    have b := am_mono h2 n
    rw [Nat.add_comm] at b
    rw [a] at b
    obtain ⟨rfl, rfl⟩ := Prod.mk.inj (Option.some.inj b)
    exact hq
  · intro hq
    exact ⟨n, r, σ1, h, hq⟩
/-- an instance method of an object at p: the arguments lie above it, the last on top -/
theorem am_r_virtual {idx z p ci : Nat} {fs as rest : List Value} (hd : decode (pg_code y) pc = .ok (.invokevirtual idx, 3)) (hm : pg_mth (pg_own y) idx = some z) (hz : z < pg_num ∧ pg_mk z = 0) (ha : as.length = pg_np z) (hr : rest.length ≤ 4) (hp : σ[p]? = some (.inr (ci, fs))) (hc : ci = pg_own z) (ho : as.all am_ok = true ∧ as.length + 1 ≤ pg_maxL z) :
    am_Rn L xs (d + 1) y pc ls (as.reverse ++ .ref p :: rest) σ Q = am_Call L xs d z (.ref p :: as) σ (fun r σ1 => am_Rn L xs (d + 1) y (pc + 3) ls (r.toList ++ rest) σ1 Q) := by
  have hl : as.reverse.length = pg_np z := by rw [List.length_reverse]; exact ha
  have h1 : (as.reverse ++ Value.ref p :: rest).drop (pg_np z) = .ref p :: rest := by rw [← hl, List.drop_left']; rfl
  have h2 : (as.reverse ++ Value.ref p :: rest).take (pg_np z) = as.reverse := by rw [← hl, List.take_left']; rfl
  refine am_call hd rfl rfl ?_ ⟨by rw [List.all_cons, ho.1]; rfl, ho.2⟩
  simp only [am_cl, hm]
  rw [if_pos hz, h1, h2]
  simp only [hp]
  rw [if_pos ⟨hc, hr, hl⟩, List.reverse_reverse]
theorem am_r_special {idx z p : Nat} {as rest : List Value} (hd : decode (pg_code y) pc = .ok (.invokespecial idx, 3)) (hm : pg_mth (pg_own y) idx = some z) (hz : z < pg_num ∧ pg_mk z = 1) (ha : as.length = pg_np z) (hr : rest.length ≤ 4) (ho : as.all am_ok = true ∧ as.length + 1 ≤ pg_maxL z) :
    am_Rn L xs (d + 1) y pc ls (as.reverse ++ .ref p :: rest) σ Q = am_Call L xs d z (.ref p :: as) σ (fun r σ1 => am_Rn L xs (d + 1) y (pc + 3) ls (r.toList ++ rest) σ1 Q) := by
  have hl : as.reverse.length = pg_np z := by rw [List.length_reverse]; exact ha
  have h1 : (as.reverse ++ Value.ref p :: rest).drop (pg_np z) = .ref p :: rest := by rw [← hl, List.drop_left']; rfl
  have h2 : (as.reverse ++ Value.ref p :: rest).take (pg_np z) = as.reverse := by rw [← hl, List.take_left']; rfl
  refine am_call hd rfl rfl ?_ ⟨by rw [List.all_cons, ho.1]; rfl, ho.2⟩
  simp only [am_cl, hm]
  rw [if_pos hz, h1, h2]
  dsimp only
  rw [if_pos ⟨hr, hl⟩, List.reverse_reverse]
theorem am_r_static {idx z : Nat} {as rest : List Value} (hd : decode (pg_code y) pc = .ok (.invokestatic idx, 3)) (hm : pg_mth (pg_own y) idx = some z) (hz : z < pg_num ∧ pg_mk z = 2) (ha : as.length = pg_np z) (hr : rest.length ≤ 4) (ho : as.all am_ok = true ∧ as.length ≤ pg_maxL z) :
    am_Rn L xs (d + 1) y pc ls (as.reverse ++ rest) σ Q = am_Call L xs d z as σ (fun r σ1 => am_Rn L xs (d + 1) y (pc + 3) ls (r.toList ++ rest) σ1 Q) := by
  have hl : as.reverse.length = pg_np z := by rw [List.length_reverse]; exact ha
  have h1 : (as.reverse ++ rest).drop (pg_np z) = rest := by rw [← hl, List.drop_left']; rfl
  have h2 : (as.reverse ++ rest).take (pg_np z) = as.reverse := by rw [← hl, List.take_left']; rfl
  refine am_call hd rfl rfl ?_ ho
  simp only [am_cl, hm]
  rw [if_pos hz, h1, h2, if_pos ⟨hr, hl⟩, List.reverse_reverse]
theorem am_r_new {idx ci : Nat} (hd : decode (pg_code y) pc = .ok (.new idx, 3)) (hn : pg_new (pg_own y) idx = some ci) : am_Rn L xs d y pc ls st σ Q = am_Rn L xs d y (pc + 3) ls (.ref σ.length :: st) (σ ++ [.inr (ci, pg_def ci)]) Q :=
  am_step hd rfl rfl rfl (by simp only [am_simple, am_new, hn])
theorem am_r_sp {i : Instr} {idx sp pc' : Nat} {ls' st' : List Value} {σ1 : am_S} (hd : decode (pg_code y) pc = .ok (i, 3)) (hi : (i = .invokespecial idx ∧ sp = 1000) ∨ (i = .invokestatic idx ∧ 1000 < sp)) (hm : pg_mth (pg_own y) idx = some sp) (hn : ¬ sp < pg_num) (hs : am_sp d sp pc ls st σ = some (pc', ls', st', σ1)) :
    am_Rn L xs d y pc ls st σ Q = am_Rn L xs d y pc' ls' st' σ1 Q := by
  rcases hi with ⟨rfl, rfl⟩ | ⟨rfl, hsp⟩
  · refine am_step hd rfl rfl ?_ ?_
    · simp only [am_cl, hm]; rw [if_neg (fun h => hn h.1)]
    · show am_spc 0 d (pg_own y) idx pc ls st σ = _
      unfold am_spc
      rw [hm]
      exact (if_pos (Or.inl ⟨rfl, rfl⟩)).trans hs
  · refine am_step hd rfl rfl ?_ ?_
    · simp only [am_cl, hm]; rw [if_neg (fun h => hn h.1)]
    · show am_spc 1 d (pg_own y) idx pc ls st σ = _
      unfold am_spc
      rw [hm]
      exact (if_pos (Or.inr ⟨rfl, hsp⟩)).trans hs
/-- only the law reads the script -/
theorem am_nol_s (L : Nat) (xs : Nat → Int32) {d z : Nat} (hz : z < pg_num) (i : Instr) (pc : Nat) (ls st : List Value) (σ : am_S) : am_simple L xs d z i pc ls st σ = am_simple 0 (fun _ => 0) d z i pc ls st σ := by
  have h : ¬ z = pg_num := Nat.ne_of_lt hz
  cases i <;> first | rfl | simp only [am_simple, h, if_false]
theorem am_nol (L : Nat) (xs : Nat → Int32) : ∀ (n d z pc : Nat) (ls st : List Value) (σ : am_S), z < pg_num → am_run L xs n d z pc ls st σ = am_run 0 (fun _ => 0) n d z pc ls st σ
  | 0, _, _, _, _, _, _, _ => rfl
  | n + 1, d, z, pc, ls, st, σ, hz => by
    show am_body L xs (am_run L xs n) d z pc ls st σ = am_body 0 (fun _ => 0) (am_run 0 (fun _ => 0) n) d z pc ls st σ
    unfold am_body
    cases decode (pg_code z) pc with
    | error _ => rfl
    | ok w =>
      obtain ⟨i, len⟩ := w
      dsimp only
      by_cases hl : am_lo i len = false
      · rw [if_pos hl, if_pos hl]
      · rw [if_neg hl, if_neg hl]
        cases am_ret z i st with
        | some r => rfl
        | none =>
          dsimp only
          cases hc : am_cl z i st σ with
          | none =>
            dsimp only
            rw [am_nol_s L xs hz]
            cases am_simple 0 (fun _ => 0) d z i pc ls st σ with
            | none => rfl
            | some w => exact am_nol L xs n _ _ _ _ _ _ hz
          | some w =>
            obtain ⟨z', as, rest⟩ := w
            dsimp only
            by_cases ho : as.all am_ok = true ∧ as.length ≤ pg_maxL z'
            · rw [if_pos ho, if_pos ho]
              cases d with
              | zero => rfl
              | succ d' =>
                dsimp only
                rw [am_nol L xs n d' z' 0 _ _ _ (am_cl_num hc)]
                cases am_run 0 (fun _ => 0) n d' z' 0 (am_en z' as) [] σ with
                | none => rfl
                | some w => exact am_nol L xs n _ _ _ _ _ _ hz
            · rw [if_neg ho, if_neg ho]
end amO
