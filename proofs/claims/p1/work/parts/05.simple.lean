/-! One step of the abstract machine is a step of the machine -/
theorem am_in_of {i : Int32} {n : Nat} (h : am_in i n = true) : vp_in i n := by
  simp only [am_in, Bool.and_eq_true, Bool.not_eq_true', decide_eq_false_iff_not, decide_eq_true_eq] at h
  rintro (h1 | h1)
  · exact h.1 h1
  · omega
section amS
variable {p : Program} {l : Launch} {e : Env} {R : Room} {s : State} {m : MethodId} {args : Array Value} {below : List Frame} {meth : Method} {c : Code} {H : Heap} {locs : List Loc} {cells slots : Nat} {Q : State → Prop}
variable {bs hz : Nat} {dC : Nat → ClassId} {dI : Nat → Nat → Nat} {dA : Nat → ClassId} {L : Nat} {xs : Nat → Int32}
variable {d y pc : Nat} {ls st ls' st' : List Value} {σ σ1 : am_S} {lsA : Array Slot} {pc' len : Nat}
/-- what is to be shown of a step -/
abbrev am_G (p : Program) (l : Launch) (e : Env) (R : Room) (s : State) (m : MethodId) (args : Array Value) (below : List Frame) (meth : Method) (c : Code) (H : Heap) (locs : List Loc) (cells slots : Nat) (Q : State → Prop)
    (bs hz : Nat) (dC : Nat → ClassId) (dI : Nat → Nat → Nat) (dA : Nat → ClassId) (y pc : Nat) (st : List Value) (σ : am_S) (lsA : Array Slot) (pc' : Nat) (ls' st' : List Value) (σ1 : am_S) : Prop :=
  (∀ (H1 : Heap) (locs1 : List Loc) (cells1 slots1 : Nat) (lsA1 : Array Slot), am_Dy bs hz dC dI dA s H1 locs1 cells1 σ1 → am_L bs hz lsA1 ls' (pg_maxL y) → cells1 + σ.length = cells + σ1.length → slots1 + am_ns σ = slots + am_ns σ1 →
    W p l e R s m args below meth c H1 locs1 cells1 slots1 Q (F0 m pc' lsA1 (st'.map (am_cv bs hz)))) →
  W p l e R s m args below meth c H locs cells slots Q (F0 m pc lsA (st.map (am_cv bs hz)))
theorem am_s_il {i : Instr} {k : Nat} (hF : am_Fr bs hz dC dI dA L xs p R s m args meth c d y) (hD : am_Dy bs hz dC dI dA s H locs cells σ) (hL : am_L bs hz lsA ls (pg_maxL y))
    (hd : decode (pg_code y) pc = .ok (i, len)) (hi : (∃ q : Fin 4, i = .iload_n q ∧ q.val = k ∧ len = 1) ∨ (i = .iload k ∧ len = 2)) (hs : am_il k (pc + len) ls st σ = some (pc', ls', st', σ1)) :
    am_G p l e R s m args below meth c H locs cells slots Q bs hz dC dI dA y pc st σ lsA pc' ls' st' σ1 := by
  intro kk
  unfold am_il at hs
  split at hs
  next x hx1 =>
    obtain ⟨rfl, rfl, rfl, rfl⟩ : pc + len = pc' ∧ ls = ls' ∧ Value.int x :: st = st' ∧ σ = σ1 := by simpa using hs
    have hg := hL.2.2.2 k _ hx1 rfl
    have kk := kk H locs cells slots lsA hD hL rfl rfl
    rcases hi with ⟨q, rfl, hq, rfl⟩ | ⟨rfl, rfl⟩
    · exact lv_iload_n hF.1 hF.2.1 hd hq hg kk
    · exact lv_iload hF.1 hF.2.1 hd hg kk
  next => cases hs
theorem am_s_al {i : Instr} {k : Nat} (hF : am_Fr bs hz dC dI dA L xs p R s m args meth c d y) (hD : am_Dy bs hz dC dI dA s H locs cells σ) (hL : am_L bs hz lsA ls (pg_maxL y))
    (hd : decode (pg_code y) pc = .ok (i, len)) (hi : (∃ q : Fin 4, i = .aload_n q ∧ q.val = k ∧ len = 1) ∨ (i = .aload k ∧ len = 2)) (hs : am_al k (pc + len) ls st σ = some (pc', ls', st', σ1)) :
    am_G p l e R s m args below meth c H locs cells slots Q bs hz dC dI dA y pc st σ lsA pc' ls' st' σ1 := by
  intro kk
  unfold am_al at hs
  split at hs
  next x hx1 =>
    obtain ⟨rfl, rfl, rfl, rfl⟩ : pc + len = pc' ∧ ls = ls' ∧ Value.ref x :: st = st' ∧ σ = σ1 := by simpa using hs
    have hg := hL.2.2.2 k _ hx1 rfl
    have kk := kk H locs cells slots lsA hD hL rfl rfl
    rcases hi with ⟨q, rfl, hq, rfl⟩ | ⟨rfl, rfl⟩
    · exact lv_aload_n hF.1 hF.2.1 hd hq hg kk
    · exact lv_aload hF.1 hF.2.1 hd hg kk
  next hx1 =>
    obtain ⟨rfl, rfl, rfl, rfl⟩ : pc + len = pc' ∧ ls = ls' ∧ Value.null :: st = st' ∧ σ = σ1 := by simpa using hs
    have hg := hL.2.2.2 k _ hx1 rfl
    have kk := kk H locs cells slots lsA hD hL rfl rfl
    rcases hi with ⟨q, rfl, hq, rfl⟩ | ⟨rfl, rfl⟩
    · exact lv_aload_nN hF.1 hF.2.1 hd hq hg kk
    · exact lv_aloadN hF.1 hF.2.1 hd hg kk
  next x hx1 =>
    obtain ⟨rfl, rfl, rfl, rfl⟩ : pc + len = pc' ∧ ls = ls' ∧ Value.float x :: st = st' ∧ σ = σ1 := by simpa using hs
    have hg := hL.2.2.2 k _ hx1 rfl
    have kk := kk H locs cells slots lsA hD hL rfl rfl
    rcases hi with ⟨q, rfl, hq, rfl⟩ | ⟨rfl, rfl⟩
    · exact lv_aload_n hF.1 hF.2.1 hd hq hg kk
    · exact lv_aload hF.1 hF.2.1 hd hg kk
  next => cases hs
theorem am_s_is {i : Instr} {k : Nat} (hF : am_Fr bs hz dC dI dA L xs p R s m args meth c d y) (hD : am_Dy bs hz dC dI dA s H locs cells σ) (hL : am_L bs hz lsA ls (pg_maxL y))
    (hd : decode (pg_code y) pc = .ok (i, len)) (hi : (∃ q : Fin 4, i = .istore_n q ∧ q.val = k ∧ len = 1) ∨ (i = .istore k ∧ len = 2)) (hs : am_is k (pc + len) ls st σ = some (pc', ls', st', σ1)) :
    am_G p l e R s m args below meth c H locs cells slots Q bs hz dC dI dA y pc st σ lsA pc' ls' st' σ1 := by
  intro kk
  unfold am_is at hs
  split at hs
  next x r =>
    split at hs
    next hk =>
      obtain ⟨rfl, rfl, rfl, rfl⟩ : pc + len = pc' ∧ ls.set k (.int x) = ls' ∧ r = st' ∧ σ = σ1 := by simpa using hs
      rw [hL.1] at hk
      rcases hi with ⟨q, rfl, hq, rfl⟩ | ⟨rfl, rfl⟩
      · exact lv_istore_n hF.1 hF.2.1 hd hq (am_L_has hL) hk rfl (fun ls1 h1 => kk H locs cells slots ls1 hD (am_L_set hL (v := .int x) rfl h1) rfl rfl)
      · exact lv_istore hF.1 hF.2.1 hd (am_L_has hL) hk rfl (fun ls1 h1 => kk H locs cells slots ls1 hD (am_L_set hL (v := .int x) rfl h1) rfl rfl)
    next => cases hs
  next => cases hs
theorem am_s_as {i : Instr} {k : Nat} (hF : am_Fr bs hz dC dI dA L xs p R s m args meth c d y) (hD : am_Dy bs hz dC dI dA s H locs cells σ) (hL : am_L bs hz lsA ls (pg_maxL y))
    (hd : decode (pg_code y) pc = .ok (i, len)) (hi : (∃ q : Fin 4, i = .astore_n q ∧ q.val = k ∧ len = 1) ∨ (i = .astore k ∧ len = 2)) (hs : am_as k (pc + len) ls st σ = some (pc', ls', st', σ1)) :
    am_G p l e R s m args below meth c H locs cells slots Q bs hz dC dI dA y pc st σ lsA pc' ls' st' σ1 := by
  intro kk
  unfold am_as at hs
  split at hs
  next x r =>
    split at hs
    next hk =>
      obtain ⟨rfl, rfl, rfl, rfl⟩ : pc + len = pc' ∧ ls.set k (.ref x) = ls' ∧ r = st' ∧ σ = σ1 := by simpa using hs
      rw [hL.1] at hk
      rcases hi with ⟨q, rfl, hq, rfl⟩ | ⟨rfl, rfl⟩
      · exact lv_astore_n hF.1 hF.2.1 hd hq (am_L_has hL) hk rfl (fun ls1 h1 => kk H locs cells slots ls1 hD (am_L_set hL (v := .ref x) rfl h1) rfl rfl)
      · exact lv_astore hF.1 hF.2.1 hd (am_L_has hL) hk rfl (fun ls1 h1 => kk H locs cells slots ls1 hD (am_L_set hL (v := .ref x) rfl h1) rfl rfl)
    next => cases hs
  next => cases hs
theorem am_s_inc {k : Nat} {n : Int} (hF : am_Fr bs hz dC dI dA L xs p R s m args meth c d y) (hD : am_Dy bs hz dC dI dA s H locs cells σ) (hL : am_L bs hz lsA ls (pg_maxL y))
    (hd : decode (pg_code y) pc = .ok (.iinc k n, 3)) (hs : am_inc k n (pc + 3) ls st σ = some (pc', ls', st', σ1)) :
    am_G p l e R s m args below meth c H locs cells slots Q bs hz dC dI dA y pc st σ lsA pc' ls' st' σ1 := by
  intro kk
  unfold am_inc at hs
  split at hs
  next x hx1 =>
    obtain ⟨rfl, rfl, rfl, rfl⟩ : pc + 3 = pc' ∧ ls.set k (.int (x + Int32.ofInt n)) = ls' ∧ st = st' ∧ σ = σ1 := by simpa using hs
    have hk : k < pg_maxL y := by rw [← hL.1]; exact (List.getElem?_eq_some_iff.mp hx1).1
    obtain ⟨j, hj⟩ := List.getElem?_of_mem (am_lv_mem (bs := bs) (hz := hz) (q := (k, .int x)) |>.mpr ⟨_, hx1, rfl, rfl⟩)
    exact lv_iinc hF.1 hF.2.1 hd (am_L_has hL) hj rfl hk rfl (fun ls1 h1 => kk H locs cells slots ls1 hD (am_L_set hL (v := .int (x + Int32.ofInt n)) rfl h1) rfl rfl)
  next => cases hs
theorem am_s_ii {i : Instr} {f : Int32 → Int32 → Int32} (hD : am_Dy bs hz dC dI dA s H locs cells σ) (hL : am_L bs hz lsA ls (pg_maxL y))
    (row : ∀ (a b : Int32) (rest : List Value), W p l e R s m args below meth c H locs cells slots Q (F0 m (pc + 1) lsA (.int (f a b) :: rest)) → W p l e R s m args below meth c H locs cells slots Q (F0 m pc lsA (.int b :: .int a :: rest)))
    (hs : am_ii f pc ls st σ = some (pc', ls', st', σ1)) :
    am_G p l e R s m args below meth c H locs cells slots Q bs hz dC dI dA y pc st σ lsA pc' ls' st' σ1 := by
  intro kk
  unfold am_ii at hs
  split at hs
  next b a r =>
    obtain ⟨rfl, rfl, rfl, rfl⟩ : pc + 1 = pc' ∧ ls = ls' ∧ Value.int (f a b) :: r = st' ∧ σ = σ1 := by simpa using hs
    exact row a b _ (kk H locs cells slots lsA hD hL rfl rfl)
  next => cases hs
theorem am_s_dv {i : Instr} {f : Int32 → Int32 → Int32} (hD : am_Dy bs hz dC dI dA s H locs cells σ) (hL : am_L bs hz lsA ls (pg_maxL y))
    (row : ∀ (a b : Int32) (rest : List Value), ¬ b = 0 → W p l e R s m args below meth c H locs cells slots Q (F0 m (pc + 1) lsA (.int (f a b) :: rest)) → W p l e R s m args below meth c H locs cells slots Q (F0 m pc lsA (.int b :: .int a :: rest)))
    (hs : am_dv f pc ls st σ = some (pc', ls', st', σ1)) :
    am_G p l e R s m args below meth c H locs cells slots Q bs hz dC dI dA y pc st σ lsA pc' ls' st' σ1 := by
  intro kk
  unfold am_dv at hs
  split at hs
  next b a r =>
    split at hs
    next => cases hs
    next hb0 =>
      obtain ⟨rfl, rfl, rfl, rfl⟩ : pc + 1 = pc' ∧ ls = ls' ∧ Value.int (f a b) :: r = st' ∧ σ = σ1 := by simpa using hs
      exact row a b _ hb0 (kk H locs cells slots lsA hD hL rfl rfl)
  next => cases hs
theorem am_s_if {cnd : Jvm.ClassFile.Cond} {off : Int} (hF : am_Fr bs hz dC dI dA L xs p R s m args meth c d y) (hD : am_Dy bs hz dC dI dA s H locs cells σ) (hL : am_L bs hz lsA ls (pg_maxL y))
    (hd : decode (pg_code y) pc = .ok (.ifCond cnd off, 3)) (hs : am_if cnd off pc ls st σ = some (pc', ls', st', σ1)) :
    am_G p l e R s m args below meth c H locs cells slots Q bs hz dC dI dA y pc st σ lsA pc' ls' st' σ1 := by
  intro kk
  unfold am_if at hs
  split at hs
  next x r =>
    split at hs
    next ht =>
      by_cases hc : am_cond cnd x 0 = true
      · rw [if_pos hc] at hs
        obtain ⟨rfl, rfl, rfl, rfl⟩ : am_to pc off = pc' ∧ ls = ls' ∧ r = st' ∧ σ = σ1 := by simpa using hs
        have kk := kk H locs cells slots lsA hD hL rfl rfl
        cases cnd <;> simp only [am_cond, decide_eq_true_eq] at hc
        · exact lv_if_eq hF.1 hF.2.1 hd ht (fun _ => kk) (fun h => absurd hc h)
        · exact lv_if_ne hF.1 hF.2.1 hd ht (fun _ => kk) (fun h => absurd h hc)
        · exact lv_if_lt hF.1 hF.2.1 hd ht (fun _ => kk) (fun h => absurd hc h)
        · exact lv_if_ge hF.1 hF.2.1 hd ht (fun _ => kk) (fun h => absurd hc h)
        · exact lv_if_gt hF.1 hF.2.1 hd ht (fun _ => kk) (fun h => absurd hc h)
        · exact lv_if_le hF.1 hF.2.1 hd ht (fun _ => kk) (fun h => absurd hc h)
      · rw [if_neg hc] at hs
        obtain ⟨rfl, rfl, rfl, rfl⟩ : pc + 3 = pc' ∧ ls = ls' ∧ r = st' ∧ σ = σ1 := by simpa using hs
        have kk := kk H locs cells slots lsA hD hL rfl rfl
        cases cnd <;> simp only [am_cond, decide_eq_true_eq] at hc
        · exact lv_if_eq hF.1 hF.2.1 hd ht (fun h => absurd h hc) (fun _ => kk)
        · exact lv_if_ne hF.1 hF.2.1 hd ht (fun h => absurd h hc) (fun _ => kk)
        · exact lv_if_lt hF.1 hF.2.1 hd ht (fun h => absurd h hc) (fun _ => kk)
        · exact lv_if_ge hF.1 hF.2.1 hd ht (fun h => absurd h hc) (fun _ => kk)
        · exact lv_if_gt hF.1 hF.2.1 hd ht (fun h => absurd h hc) (fun _ => kk)
        · exact lv_if_le hF.1 hF.2.1 hd ht (fun h => absurd h hc) (fun _ => kk)
    next => cases hs
  next => cases hs
theorem am_s_ic {cnd : Jvm.ClassFile.Cond} {off : Int} (hF : am_Fr bs hz dC dI dA L xs p R s m args meth c d y) (hD : am_Dy bs hz dC dI dA s H locs cells σ) (hL : am_L bs hz lsA ls (pg_maxL y))
    (hd : decode (pg_code y) pc = .ok (.if_icmp cnd off, 3)) (hs : am_ic cnd off pc ls st σ = some (pc', ls', st', σ1)) :
    am_G p l e R s m args below meth c H locs cells slots Q bs hz dC dI dA y pc st σ lsA pc' ls' st' σ1 := by
  intro kk
  unfold am_ic at hs
  split at hs
  next z x r =>
    split at hs
    next ht =>
      by_cases hc : am_cond cnd x z = true
      · rw [if_pos hc] at hs
        obtain ⟨rfl, rfl, rfl, rfl⟩ : am_to pc off = pc' ∧ ls = ls' ∧ r = st' ∧ σ = σ1 := by simpa using hs
        have kk := kk H locs cells slots lsA hD hL rfl rfl
        cases cnd <;> simp only [am_cond, decide_eq_true_eq] at hc
        · exact lv_icmp_eq hF.1 hF.2.1 hd ht (fun _ => kk) (fun h => absurd hc h)
        · exact lv_icmp_ne hF.1 hF.2.1 hd ht (fun _ => kk) (fun h => absurd h hc)
        · exact lv_icmp_lt hF.1 hF.2.1 hd ht (fun _ => kk) (fun h => absurd hc h)
        · exact lv_icmp_ge hF.1 hF.2.1 hd ht (fun _ => kk) (fun h => absurd hc h)
        · exact lv_icmp_gt hF.1 hF.2.1 hd ht (fun _ => kk) (fun h => absurd hc h)
        · exact lv_icmp_le hF.1 hF.2.1 hd ht (fun _ => kk) (fun h => absurd hc h)
      · rw [if_neg hc] at hs
        obtain ⟨rfl, rfl, rfl, rfl⟩ : pc + 3 = pc' ∧ ls = ls' ∧ r = st' ∧ σ = σ1 := by simpa using hs
        have kk := kk H locs cells slots lsA hD hL rfl rfl
        cases cnd <;> simp only [am_cond, decide_eq_true_eq] at hc
        · exact lv_icmp_eq hF.1 hF.2.1 hd ht (fun h => absurd h hc) (fun _ => kk)
        · exact lv_icmp_ne hF.1 hF.2.1 hd ht (fun h => absurd h hc) (fun _ => kk)
        · exact lv_icmp_lt hF.1 hF.2.1 hd ht (fun h => absurd h hc) (fun _ => kk)
        · exact lv_icmp_ge hF.1 hF.2.1 hd ht (fun h => absurd h hc) (fun _ => kk)
        · exact lv_icmp_gt hF.1 hF.2.1 hd ht (fun h => absurd h hc) (fun _ => kk)
        · exact lv_icmp_le hF.1 hF.2.1 hd ht (fun h => absurd h hc) (fun _ => kk)
    next => cases hs
  next => cases hs
theorem am_s_ts {dflt lo hi : Int} {offs : Array Int} (hF : am_Fr bs hz dC dI dA L xs p R s m args meth c d y) (hD : am_Dy bs hz dC dI dA s H locs cells σ) (hL : am_L bs hz lsA ls (pg_maxL y))
    (hd : decode (pg_code y) pc = .ok (.tableswitch dflt lo hi offs, len)) (hs : am_ts dflt lo hi offs pc ls st σ = some (pc', ls', st', σ1)) :
    am_G p l e R s m args below meth c H locs cells slots Q bs hz dC dI dA y pc st σ lsA pc' ls' st' σ1 := by
  intro kk
  unfold am_ts at hs
  split at hs
  next x r =>
    split at hs
    next hout =>
      unfold am_j at hs
      split at hs
      next ht =>
        obtain ⟨rfl, rfl, rfl, rfl⟩ : am_to pc dflt = pc' ∧ ls = ls' ∧ r = st' ∧ σ = σ1 := by simpa using hs
        exact lv_tableOut hF.1 hF.2.1 hd hout ht (kk H locs cells slots lsA hD hL rfl rfl)
      next => cases hs
    next hin =>
      split at hs
      next off ho =>
        unfold am_j at hs
        split at hs
        next ht =>
          obtain ⟨rfl, rfl, rfl, rfl⟩ : am_to pc off = pc' ∧ ls = ls' ∧ r = st' ∧ σ = σ1 := by simpa using hs
          exact lv_tableIn hF.1 hF.2.1 hd (fun h => hin (Or.inl h)) (fun h => hin (Or.inr h)) ho ht (kk H locs cells slots lsA hD hL rfl rfl)
        next => cases hs
      next => cases hs
  next => cases hs
theorem am_s_lk {dflt : Int} {ps : Array (Int × Int)} (hF : am_Fr bs hz dC dI dA L xs p R s m args meth c d y) (hD : am_Dy bs hz dC dI dA s H locs cells σ) (hL : am_L bs hz lsA ls (pg_maxL y))
    (hd : decode (pg_code y) pc = .ok (.lookupswitch dflt ps, len)) (hs : am_lk dflt ps pc ls st σ = some (pc', ls', st', σ1)) :
    am_G p l e R s m args below meth c H locs cells slots Q bs hz dC dI dA y pc st σ lsA pc' ls' st' σ1 := by
  intro kk
  unfold am_lk at hs
  split at hs
  next x r =>
    split at hs
    next hp =>
      unfold am_j at hs
      split at hs
      next ht =>
        obtain ⟨rfl, rfl, rfl, rfl⟩ : am_to pc (Op.lookupswitch.offset ps.toList dflt x.toInt) = pc' ∧ ls = ls' ∧ r = st' ∧ σ = σ1 := by simpa using hs
        exact lv_lookup hF.1 hF.2.1 hd hp rfl ht (kk H locs cells slots lsA hD hL rfl rfl)
      next => cases hs
    next => cases hs
  next => cases hs
theorem am_s_goto {off : Int} (hF : am_Fr bs hz dC dI dA L xs p R s m args meth c d y) (hD : am_Dy bs hz dC dI dA s H locs cells σ) (hL : am_L bs hz lsA ls (pg_maxL y))
    (hd : decode (pg_code y) pc = .ok (.goto off, 3)) (hs : am_j pc off ls st σ = some (pc', ls', st', σ1)) :
    am_G p l e R s m args below meth c H locs cells slots Q bs hz dC dI dA y pc st σ lsA pc' ls' st' σ1 := by
  intro kk
  unfold am_j at hs
  split at hs
  next ht =>
    obtain ⟨rfl, rfl, rfl, rfl⟩ : am_to pc off = pc' ∧ ls = ls' ∧ st = st' ∧ σ = σ1 := by simpa using hs
    exact lv_goto hF.1 hF.2.1 hd ht (kk H locs cells slots lsA hD hL rfl rfl)
  next => cases hs
end amS
