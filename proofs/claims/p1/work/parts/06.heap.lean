/-! The steps that read or write the store -/
theorem am_fit_ok {bs hz k : Nat} {ty : FieldType} {v : Value} (hk : am_kd ty = k) (h : am_fit k v = true) : narrow ty (am_cv bs hz v) = am_cv bs hz v ∧ fits ty (am_cv bs hz v) = true := by
  subst hk
  cases v with
  | int x =>
    simp only [am_fit, Bool.or_eq_true, Bool.and_eq_true, beq_iff_eq, decide_eq_true_eq] at h
    rcases h with h | ⟨h, hx⟩
    · cases ty <;> simp [am_kd] at h
      exact ⟨rfl, rfl⟩
    · cases ty <;> simp [am_kd] at h
      rcases hx with rfl | rfl
      · exact ⟨show narrow .boolean (.int 0) = .int 0 by decide +kernel, show fits .boolean (.int 0) = true by decide +kernel⟩
      · exact ⟨show narrow .boolean (.int 1) = .int 1 by decide +kernel, show fits .boolean (.int 1) = true by decide +kernel⟩
  | ref a =>
    simp only [am_fit, beq_iff_eq] at h
    cases ty <;> simp [am_kd] at h
    · exact ⟨rfl, rfl⟩
    · exact ⟨rfl, rfl⟩
  | _ => simp [am_fit] at h
section amS
variable {p : Program} {l : Launch} {e : Env} {R : Room} {s : State} {m : MethodId} {args : Array Value} {below : List Frame} {meth : Method} {c : Code} {H : Heap} {locs : List Loc} {cells slots : Nat} {Q : State → Prop}
variable {bs hz : Nat} {dC : Nat → ClassId} {dI : Nat → Nat → Nat} {dA : Nat → ClassId} {L : Nat} {xs : Nat → Int32}
variable {d y pc : Nat} {ls st ls' st' : List Value} {σ σ1 : am_S} {lsA : Array Slot} {pc' len : Nat}
theorem am_Fr.words (hF : am_Fr bs hz dC dI dA L xs p R s m args meth c d y) : ∀ w ∈ pg_words, w.before args s = true := hF.2.2.2.2.2.2.2.1
theorem am_Fr.own (hF : am_Fr bs hz dC dI dA L xs p R s m args meth c d y) : s.vm.findClass (pg_cn (pg_own y)) = some m.cls := hF.2.2.2.2.2.2.1
theorem am_Fr.K (hF : am_Fr bs hz dC dI dA L xs p R s m args meth c d y) : va_K (dC, dI) pg_cl (pg_tys dA) s := hF.2.2.2.2.2.2.2.2.1
theorem am_Fr.X (hF : am_Fr bs hz dC dI dA L xs p R s m args meth c d y) : va_X bs L xs s s.heap := hF.2.2.2.2.2.2.2.2.2.1
theorem am_Fr.bl (hF : am_Fr bs hz dC dI dA L xs p R s m args meth c d y) : bs < hz := hF.2.2.2.2.2.2.2.2.2.2.1
theorem am_Fr.hl (hF : am_Fr bs hz dC dI dA L xs p R s m args meth c d y) : hz ≤ s.heap.size := hF.2.2.2.2.2.2.2.2.2.2.2.1
theorem am_Fr.fr (hF : am_Fr bs hz dC dI dA L xs p R s m args meth c d y) : d ≤ R.frames := hF.2.2.2.2.2.2.2.2.2.2.2.2.1
theorem am_Fr.lo (hF : am_Fr bs hz dC dI dA L xs p R s m args meth c d y) : 60 * d ≤ R.locals := hF.2.2.2.2.2.2.2.2.2.2.2.2.2.1
theorem am_Fr.num (hF : am_Fr bs hz dC dI dA L xs p R s m args meth c d y) : y ≤ pg_num := hF.2.2.2.2.2.2.2.2.2.2.2.2.2.2.1
theorem am_Fr.x0 (hF : am_Fr bs hz dC dI dA L xs p R s m args meth c d y) : am_X0 s := hF.2.2.2.2.2.2.2.2.2.2.2.2.2.2.2
theorem am_s_gf {idx : Nat} (hF : am_Fr bs hz dC dI dA L xs p R s m args meth c d y) (hD : am_Dy bs hz dC dI dA s H locs cells σ) (hL : am_L bs hz lsA ls (pg_maxL y))
    (hd : decode (pg_code y) pc = .ok (.getfield idx, 3)) (hs : am_gf (pg_own y) idx pc ls st σ = some (pc', ls', st', σ1)) :
    am_G p l e R s m args below meth c H locs cells slots Q bs hz dC dI dA y pc st σ lsA pc' ls' st' σ1 := by
  intro kk
  unfold am_gf at hs
  split at hs
  next q r =>
    split at hs
    next ci k ci' fs hfl hsq =>
      split at hs
      next hci =>
        subst hci
        split at hs
        next v hv =>
          obtain ⟨rfl, rfl, rfl, rfl⟩ : pc + 3 = pc' ∧ ls = ls' ∧ v :: r = st' ∧ σ = σ1 := by simpa using hs
          obtain ⟨C, T, N, ty, hcl, hkN, hin, hlk, hty, hnm, hkd, hfin, hdecl, hC⟩ := pg_fld_ok hfl
          refine va_get (D := (dC, dI)) hF.1 hF.2.1 hF.words hin hF.own hF.K hD.1 q (am_w_at hsq) hcl k hkN (hF.words _ hlk) (fun _ h => h) (v := am_cv bs hz v) (by rw [List.getElem?_map, hv]; rfl) hd ?_
          exact kk H locs cells slots lsA hD hL rfl rfl
        next => cases hs
      next => cases hs
    next => cases hs
  next => cases hs
theorem am_Dy.put {x x' : am_E} {k : Nat} {H1 : Heap} {locs1 : List Loc} (hD : am_Dy bs hz dC dI dA s H locs cells σ) (hk : σ[k]? = some x)
    (hP : va_P (dC, dI) pg_cl ((am_w bs hz dA σ).set k (hz + k, am_ce bs hz dA x')) H1) (hS : va_S (fun q => hz ≤ q) s.heap H1 locs1) : am_Dy bs hz dC dI dA s H1 locs1 cells (σ.set k x') := by
  refine ⟨by rw [am_w_set] at hP; exact hP, hS, by rw [List.length_set]; exact hD.2.2⟩
theorem am_s_pf {idx : Nat} (hF : am_Fr bs hz dC dI dA L xs p R s m args meth c d y) (hD : am_Dy bs hz dC dI dA s H locs cells σ) (hL : am_L bs hz lsA ls (pg_maxL y))
    (hd : decode (pg_code y) pc = .ok (.putfield idx, 3)) (hs : am_pf y (pg_own y) idx pc ls st σ = some (pc', ls', st', σ1)) :
    am_G p l e R s m args below meth c H locs cells slots Q bs hz dC dI dA y pc st σ lsA pc' ls' st' σ1 := by
  intro kk
  unfold am_pf at hs
  split at hs
  next v q r =>
    split at hs
    next ci k ci' fs hfl hsq =>
      split at hs
      next hc =>
        obtain ⟨rfl, hkl, hft, hff⟩ := hc
        obtain ⟨rfl, rfl, rfl, rfl⟩ : pc + 3 = pc' ∧ ls = ls' ∧ r = st' ∧ σ.set q (.inr (ci', fs.set k v)) = σ1 := by simpa using hs
        obtain ⟨C, T, N, ty, hcl, hkN, hin, hlk, hty, hnm, hkd, hfin, hdecl, hC⟩ := pg_fld_ok hfl
        obtain ⟨hn, hf⟩ := am_fit_ok (bs := bs) (hz := hz) hkd hft
        have hez : am_ns (σ.set q (.inr (ci', fs.set k v))) = am_ns σ := am_ns_set hsq (by simp [am_z])
        have fin : ∀ (H1 : Heap) (locs1 : List Loc), va_P (dC, dI) pg_cl ((am_w bs hz dA σ).set q (hz + q, .inr (ci', (fs.map (am_cv bs hz)).set k (am_cv bs hz v)))) H1 → va_D (fun q => hz ≤ q) ((am_w bs hz dA σ).set q (hz + q, .inr (ci', (fs.map (am_cv bs hz)).set k (am_cv bs hz v)))) → va_S (fun q => hz ≤ q) s.heap H1 locs1 →
            W p l e R s m args below meth c H1 locs1 cells slots Q (F0 m (pc + 3) lsA (r.map (am_cv bs hz))) := by
          intro H1 locs1 h1 h2 h3
          refine kk H1 locs1 cells slots lsA (hD.put hsq (x' := .inr (ci', fs.set k v)) ?_ h3) hL (by rw [List.length_set]) (by rw [hez])
          have e1 : am_ce bs hz dA (.inr (ci', fs.set k v)) = .inr (ci', (fs.map (am_cv bs hz)).set k (am_cv bs hz v)) := by
            simp [am_ce, List.map_set]
          rw [e1]; exact h1
        cases hfb : pg_ff ci' k with
        | false =>
          refine va_put (D := (dC, dI)) hF.1 hF.2.1 hF.words hin ty hty hnm hF.own hF.K hD.1 (am_w_D bs hz dA σ) hD.2.1 q (am_w_at hsq) hcl k hkN (hF.words _ hlk) (fun _ h => h) (by rw [hfin]; exact hfb) (ty := ty k) (hty k hkN) hn hf (by rw [List.length_map]; exact hkl) hd fin
        | true =>
          obtain ⟨hini, hown⟩ := hff hfb
          refine va_putF (D := (dC, dI)) hF.1 hF.2.1 hF.words hin ty hty hnm hF.own hF.K hD.1 (am_w_D bs hz dA σ) hD.2.1 q (am_w_at hsq) hcl k hkN (hF.words _ hlk) (fun _ h => h) (by rw [hfin]; exact hfb) ((hF.2.2.2.2.2.1 hini).trans (pg_ini_ok hF.num hini)) (by rw [hdecl, hC, hown]) (ty := ty k) (hty k hkN) hn hf (by rw [List.length_map]; exact hkl) hd fin
      next => cases hs
    next => cases hs
  next => cases hs
theorem am_s_ild (hF : am_Fr bs hz dC dI dA L xs p R s m args meth c d y) (hD : am_Dy bs hz dC dI dA s H locs cells σ) (hL : am_L bs hz lsA ls (pg_maxL y))
    (hd : decode (pg_code y) pc = .ok (.iaload, 1)) {L' : Nat} {xs' : Nat → Int32} (hLx : (L' = L ∧ xs' = xs) ∨ L' = 0) (hs : am_ild L' xs' pc ls st σ = some (pc', ls', st', σ1)) :
    am_G p l e R s m args below meth c H locs cells slots Q bs hz dC dI dA y pc st σ lsA pc' ls' st' σ1 := by
  intro kk
  unfold am_ild at hs
  split at hs
  next i q r =>
    split at hs
    next n f hsq =>
      split at hs
      next hi =>
        obtain ⟨rfl, rfl, rfl, rfl⟩ : pc + 1 = pc' ∧ ls = ls' ∧ Value.int (f i.toNatClampNeg) :: r = st' ∧ σ = σ1 := by simpa using hs
        exact va_iald hF.1 hF.2.1 hF.K hD.1 q 0 (cA := dA 0) (n := n) (f := f) (am_w_at hsq) rfl (am_in_of hi) hd (kk H locs cells slots lsA hD hL rfl rfl)
      next => cases hs
    next => cases hs
  next i z r =>
    split at hs
    next hi =>
      rcases hLx with ⟨rfl, rfl⟩ | rfl
      case inr => exact absurd (am_in_of hi) (fun h => h (Or.inr (Nat.zero_le _)))
      obtain ⟨rfl, rfl, rfl, rfl⟩ : pc + 1 = pc' ∧ ls = ls' ∧ Value.int (xs' i.toNatClampNeg) :: r = st' ∧ σ = σ1 := by simpa using hs
      exact va_sld hF.1 hF.2.1 hF.X (Nat.lt_of_lt_of_le hF.bl hF.hl) (Nat.not_le.mpr hF.bl) hD.2.1 (am_in_of hi) hd (kk H locs cells slots lsA hD hL rfl rfl)
    next => cases hs
  next => cases hs
theorem am_s_ist (hF : am_Fr bs hz dC dI dA L xs p R s m args meth c d y) (hD : am_Dy bs hz dC dI dA s H locs cells σ) (hL : am_L bs hz lsA ls (pg_maxL y))
    (hd : decode (pg_code y) pc = .ok (.iastore, 1)) (hs : am_ist pc ls st σ = some (pc', ls', st', σ1)) :
    am_G p l e R s m args below meth c H locs cells slots Q bs hz dC dI dA y pc st σ lsA pc' ls' st' σ1 := by
  intro kk
  unfold am_ist at hs
  split at hs
  next x i q r =>
    split at hs
    next n f hsq =>
      split at hs
      next hi =>
        obtain ⟨rfl, rfl, rfl, rfl⟩ : pc + 1 = pc' ∧ ls = ls' ∧ r = st' ∧ σ.set q (.inl (0, (n, .inl (upd f i.toNatClampNeg x)))) = σ1 := by simpa using hs
        exact va_iast hF.1 hF.2.1 hF.K hD.1 (am_w_D bs hz dA σ) hD.2.1 q 0 (cA := dA 0) (n := n) (f := f) (am_w_at hsq) rfl (am_in_of hi) hd (fun H1 locs1 h1 _ h3 =>
          kk H1 locs1 cells slots lsA (hD.put hsq (x' := .inl (0, (n, .inl (upd f i.toNatClampNeg x)))) h1 h3) hL (by rw [List.length_set]) (by apply am_ns_setE hsq; rfl))
      next => cases hs
    next => cases hs
  next => cases hs
theorem am_s_zld (hF : am_Fr bs hz dC dI dA L xs p R s m args meth c d y) (hD : am_Dy bs hz dC dI dA s H locs cells σ) (hL : am_L bs hz lsA ls (pg_maxL y))
    (hd : decode (pg_code y) pc = .ok (.baload, 1)) (hs : am_zld pc ls st σ = some (pc', ls', st', σ1)) :
    am_G p l e R s m args below meth c H locs cells slots Q bs hz dC dI dA y pc st σ lsA pc' ls' st' σ1 := by
  intro kk
  unfold am_zld at hs
  split at hs
  next i q r =>
    split at hs
    next n f hsq =>
      split at hs
      next hi =>
        obtain ⟨rfl, rfl, rfl, rfl⟩ : pc + 1 = pc' ∧ ls = ls' ∧ Value.int (f i.toNatClampNeg) :: r = st' ∧ σ = σ1 := by simpa using hs
        exact va_zald hF.1 hF.2.1 hF.K hD.1 q 1 (cA := dA 1) (n := n) (f := f) (am_w_at hsq) rfl (am_in_of hi) hd (kk H locs cells slots lsA hD hL rfl rfl)
      next => cases hs
    next => cases hs
  next => cases hs
theorem am_s_zst (hF : am_Fr bs hz dC dI dA L xs p R s m args meth c d y) (hD : am_Dy bs hz dC dI dA s H locs cells σ) (hL : am_L bs hz lsA ls (pg_maxL y))
    (hd : decode (pg_code y) pc = .ok (.bastore, 1)) (hs : am_zst pc ls st σ = some (pc', ls', st', σ1)) :
    am_G p l e R s m args below meth c H locs cells slots Q bs hz dC dI dA y pc st σ lsA pc' ls' st' σ1 := by
  intro kk
  unfold am_zst at hs
  split at hs
  next x i q r =>
    split at hs
    next n f hsq =>
      split at hs
      next hi =>
        obtain ⟨rfl, rfl, rfl, rfl⟩ : pc + 1 = pc' ∧ ls = ls' ∧ r = st' ∧ σ.set q (.inl (1, (n, .inl (upd f i.toNatClampNeg (vp_nar .boolean x))))) = σ1 := by simpa using hs
        exact va_zast hF.1 hF.2.1 hF.K hD.1 (am_w_D bs hz dA σ) hD.2.1 q 1 (cA := dA 1) (n := n) (f := f) (am_w_at hsq) rfl (am_in_of hi) hd (fun H1 locs1 h1 _ h3 =>
          kk H1 locs1 cells slots lsA (hD.put hsq (x' := .inl (1, (n, .inl (upd f i.toNatClampNeg (vp_nar .boolean x))))) h1 h3) hL (by rw [List.length_set]) (by apply am_ns_setE hsq; rfl))
      next => cases hs
    next => cases hs
  next => cases hs
theorem am_s_ald (hF : am_Fr bs hz dC dI dA L xs p R s m args meth c d y) (hD : am_Dy bs hz dC dI dA s H locs cells σ) (hL : am_L bs hz lsA ls (pg_maxL y))
    (hd : decode (pg_code y) pc = .ok (.aaload, 1)) (hs : am_ald pc ls st σ = some (pc', ls', st', σ1)) :
    am_G p l e R s m args below meth c H locs cells slots Q bs hz dC dI dA y pc st σ lsA pc' ls' st' σ1 := by
  intro kk
  unfold am_ald at hs
  split at hs
  next i q r =>
    split at hs
    next t n f hsq =>
      split at hs
      next hi =>
        split at hs
        next v hv =>
          obtain ⟨rfl, rfl, rfl, rfl⟩ : pc + 1 = pc' ∧ ls = ls' ∧ Value.ref v :: r = st' ∧ σ = σ1 := by simpa using hs
          obtain ⟨hi, ht⟩ := hi
          have hin := am_in_of hi
          have hlt : i.toNatClampNeg < n := Nat.not_le.mp fun q => hin (Or.inr q)
          have kk := kk H locs cells slots lsA hD hL rfl rfl
          have hcell : H[hz + q]? = some (arrV (dA t) n (fun j => va_rf ((f j).map (fun z => hz + z)))) := hD.1 q _ (am_w_at hsq)
          have hrd : (arrV (dA t) n (fun j => va_rf ((f j).map (fun z => hz + z)))).slots[i.toNatClampNeg]? = some (.ref (hz + v)) := by
            rw [arrV_read _ _ hlt, hv]; rfl
          rcases ht with rfl | rfl
          · exact W.aald (v := .ref (hz + v)) (ty := .object (pg_cn pg_ae)) hF.1 hF.2.1 hcell ((hF.K.2 2 _ rfl).1 n _) rfl (fun q => by cases q) (by rw [arrV_size]; exact hin) hrd rfl rfl hd kk
          · exact W.aald (v := .ref (hz + v)) (ty := .array .int) hF.1 hF.2.1 hcell ((hF.K.2 3 _ rfl).1 n _) rfl (fun q => by cases q) (by rw [arrV_size]; exact hin) hrd rfl rfl hd kk
        next => cases hs
      next => cases hs
    next => cases hs
  next => cases hs
theorem am_s_ast (hF : am_Fr bs hz dC dI dA L xs p R s m args meth c d y) (hD : am_Dy bs hz dC dI dA s H locs cells σ) (hL : am_L bs hz lsA ls (pg_maxL y))
    (hd : decode (pg_code y) pc = .ok (.aastore, 1)) (hs : am_ast pc ls st σ = some (pc', ls', st', σ1)) :
    am_G p l e R s m args below meth c H locs cells slots Q bs hz dC dI dA y pc st σ lsA pc' ls' st' σ1 := by
  intro kk
  unfold am_ast at hs
  split at hs
  next v i q r =>
    split at hs
    next n f ci vs hsq hsv =>
      split at hs
      next hi =>
        obtain ⟨hi, rfl⟩ := hi
        obtain ⟨rfl, rfl, rfl, rfl⟩ : pc + 1 = pc' ∧ ls = ls' ∧ r = st' ∧ σ.set q (.inl (2, (n, .inr (.inr (.inr (.inr (va_up f i.toNatClampNeg (some v)))))))) = σ1 := by simpa using hs
        obtain ⟨T, N, hcl⟩ := pg_ae_ok
        refine va_astq hF.1 hF.2.1 hF.K hD.1 (am_w_D bs hz dA σ) hD.2.1 q 2 v pg_ae (cA := dA 2) (r := (pg_cn pg_ae, T, N)) (n := n) (f := fun j => (f j).map (fun z => hz + z)) (am_w_at hsq) rfl (am_w_at hsv) hcl (am_in_of hi) hd (fun H1 locs1 h1 _ h3 => ?_)
        refine kk H1 locs1 cells slots lsA (hD.put hsq (x' := .inl (2, (n, .inr (.inr (.inr (.inr (va_up f i.toNatClampNeg (some v)))))))) ?_ h3) hL (by rw [List.length_set]) (by apply am_ns_setE hsq; rfl)
        have e1 : (fun j => (va_up f i.toNatClampNeg (some v) j).map (fun z => hz + z)) = va_up (fun j => (f j).map (fun z => hz + z)) i.toNatClampNeg (some (hz + v)) := by
          funext j
          unfold va_up
          split <;> rfl
        show va_P (dC, dI) pg_cl ((am_w bs hz dA σ).set q (hz + q, .inl (dA 2, (n, .inr (.inr (.inr (.inr (fun j => (va_up f i.toNatClampNeg (some v) j).map (fun z => hz + z))))))))) H1
        rw [e1]
        exact h1
      next => cases hs
    next => cases hs
  next => cases hs
theorem am_s_len (hF : am_Fr bs hz dC dI dA L xs p R s m args meth c d y) (hD : am_Dy bs hz dC dI dA s H locs cells σ) (hL : am_L bs hz lsA ls (pg_maxL y))
    (hd : decode (pg_code y) pc = .ok (.arraylength, 1)) {Lo : Option Nat} (hLo : Lo = some L ∨ Lo = none) (hs : am_len Lo pc ls st σ = some (pc', ls', st', σ1)) :
    am_G p l e R s m args below meth c H locs cells slots Q bs hz dC dI dA y pc st σ lsA pc' ls' st' σ1 := by
  intro kk
  unfold am_len at hs
  split at hs
  next q r =>
    split at hs
    next t a hsq =>
      split at hs
      next ht =>
        obtain ⟨rfl, rfl, rfl, rfl⟩ : pc + 1 = pc' ∧ ls = ls' ∧ Value.int (Int32.ofNat a.1) :: r = st' ∧ σ = σ1 := by simpa using hs
        have kk := kk H locs cells slots lsA hD hL rfl rfl
        have hty : ∃ ty, (pg_tys dA)[t]? = some (dA t, ty) := by
          match t, ht with
          | 0, _ => exact ⟨_, rfl⟩
          | 1, _ => exact ⟨_, rfl⟩
          | 2, _ => exact ⟨_, rfl⟩
          | 3, _ => exact ⟨_, rfl⟩
        obtain ⟨ty, hty⟩ := hty
        exact va_alen hF.1 hF.2.1 hF.K hD.1 q t (cA := dA t) (x := am_ca hz a) (am_w_at hsq) hty (v := Int32.ofNat a.1) rfl hd kk
      next => cases hs
    next => cases hs
  next z r =>
    rcases hLo with rfl | rfl
    case inr => cases hs
    obtain ⟨rfl, rfl, rfl, rfl⟩ : pc + 1 = pc' ∧ ls = ls' ∧ Value.int (Int32.ofNat L) :: r = st' ∧ σ = σ1 := by simpa using hs
    exact va_slen hF.1 hF.2.1 hF.X (Nat.lt_of_lt_of_le hF.bl hF.hl) (Nat.not_le.mpr hF.bl) hD.2.1 hd (kk H locs cells slots lsA hD hL rfl rfl)
  next => cases hs
/-- a new cell lies at the next place -/
theorem am_Dy.new {x : am_E} {q : Nat} {H1 : Heap} (hh : hz ≤ s.heap.size) (hD : am_Dy bs hz dC dI dA s H locs cells σ)
    (hP : va_P (dC, dI) pg_cl (am_w bs hz dA σ ++ [(q, am_ce bs hz dA x)]) H1) (hDD : va_D (fun q => hz ≤ q) (am_w bs hz dA σ ++ [(q, am_ce bs hz dA x)])) (hS : va_S (fun q => hz ≤ q) s.heap H1 locs)
    {g : JFrame} (k : q = hz + σ.length → am_Dy bs hz dC dI dA s H1 locs (cells + 1) (σ ++ [x]) → W p l e R s m args below meth c H1 locs (cells + 1) slots Q g) : W p l e R s m args below meth c H1 locs (cells + 1) slots Q g := by
  intro T hT X
  have h1 : T.heap.size ≤ s.heap.size + (cells + 1) := X.same.2.2.1
  rw [hT] at h1
  have hc := hD.2.2
  have hl := am_w_len bs hz dA σ
  have hat : (am_w bs hz dA σ ++ [(q, am_ce bs hz dA x)])[σ.length]? = some (q, am_ce bs hz dA x) := by
    rw [List.getElem?_append_right (by omega), hl, Nat.sub_self]; rfl
  have h2 : q < H1.size := (hP _ _ hat).lt
  have h3 : hz ≤ q := hDD.2 _ _ hat
  have h4 : ∀ k, k < σ.length → q ≠ hz + k := by
    intro k hk he
    have hg : σ[k]? = some (σ[k]'hk) := List.getElem?_eq_getElem hk
    have h5 : (am_w bs hz dA σ ++ [(q, am_ce bs hz dA x)])[k]? = some (hz + k, am_ce bs hz dA (σ[k]'hk)) := by
      rw [List.getElem?_append_left (by omega)]; exact am_w_at hg
    have := hDD.1 _ _ _ _ hat h5 he
    omega
  have hq : q = hz + σ.length := by
    by_cases h6 : q < hz + σ.length
    · exact absurd (show q = hz + (q - hz) by omega) (h4 (q - hz) (by omega))
    · omega
  subst hq
  exact k rfl ⟨by rw [am_w_push]; exact hP, hS, by rw [List.length_append]; simp; omega⟩ T hT X
theorem am_s_new {idx : Nat} (hF : am_Fr bs hz dC dI dA L xs p R s m args meth c d y) (hD : am_Dy bs hz dC dI dA s H locs cells σ) (hL : am_L bs hz lsA ls (pg_maxL y))
    (hd : decode (pg_code y) pc = .ok (.new idx, 3)) (hs : am_new (pg_own y) idx pc ls st σ = some (pc', ls', st', σ1)) (hrc : cells + σ1.length ≤ R.cells + σ.length) (hrs : slots + am_ns σ1 ≤ R.slots + am_ns σ) :
    am_G p l e R s m args below meth c H locs cells slots Q bs hz dC dI dA y pc st σ lsA pc' ls' st' σ1 := by
  intro kk
  unfold am_new at hs
  split at hs
  next ci hn =>
    obtain ⟨rfl, rfl, rfl, rfl⟩ : pc + 3 = pc' ∧ ls = ls' ∧ Value.ref σ.length :: st = st' ∧ σ ++ [.inr (ci, pg_def ci)] = σ1 := by simpa using hs
    obtain ⟨C, T, N, ty, hcl, hin, hty, hlk, hins, hini, hlen, hdef, hci⟩ := pg_new_ok hn
    have hcv := am_def_cv bs hz hci
    have hz1 : am_ns [.inr (ci, pg_def ci)] = N := by simp [am_ns, am_z, hlen]
    rw [am_ns_app, hz1] at hrs
    rw [List.length_append, List.length_singleton] at hrc
    refine va_new (c0 := c) (D := (dC, dI)) hF.1 hF.2.1 hF.words hin ty hty hF.own (hF.words _ hlk) (hF.words _ hins) (hF.words _ hini) hF.K hD.1 (am_w_D bs hz dA σ) hD.2.1 (fun q h => Nat.le_trans hF.hl h) hcl (fs := pg_def ci) hdef (by omega) (by omega) hd (fun q H1 h1 h2 h3 => ?_)
    have e1 : am_ce bs hz dA (.inr (ci, pg_def ci)) = .inr (ci, pg_def ci) := by simp only [am_ce]; rw [hcv]
    rw [← e1] at h1 h2
    refine am_Dy.new hF.hl hD h1 h2 h3 (fun hq hD1 => ?_)
    subst hq
    exact kk H1 locs (cells + 1) (slots + N) lsA hD1 hL (by rw [List.length_append, List.length_singleton]; omega) (by rw [am_ns_app, hz1]; omega)
  next => cases hs
theorem am_s_na {t : ArrayType} (hF : am_Fr bs hz dC dI dA L xs p R s m args meth c d y) (hD : am_Dy bs hz dC dI dA s H locs cells σ) (hL : am_L bs hz lsA ls (pg_maxL y))
    (hd : decode (pg_code y) pc = .ok (.newarray t, 2)) (hs : am_na t pc ls st σ = some (pc', ls', st', σ1)) (hrc : cells + σ1.length ≤ R.cells + σ.length) (hrs : slots + am_ns σ1 ≤ R.slots + am_ns σ) :
    am_G p l e R s m args below meth c H locs cells slots Q bs hz dC dI dA y pc st σ lsA pc' ls' st' σ1 := by
  intro kk
  unfold am_na at hs
  split at hs
  next n r =>
    split at hs
    next => cases hs
    next hn =>
      have hn0 : ¬ n < 0 := fun h => hn (Or.inl h)
      have hn1 : n.toNatClampNeg ≤ 10000 := Nat.not_lt.mp fun h => hn (Or.inr h)
      split at hs
      · obtain ⟨rfl, rfl, rfl, rfl⟩ : pc + 2 = pc' ∧ ls = ls' ∧ Value.ref σ.length :: r = st' ∧ σ ++ [.inl (0, (n.toNatClampNeg, .inl (fun _ => 0)))] = σ1 := by simpa using hs
        have hz1 : am_ns [.inl (0, (n.toNatClampNeg, .inl (fun _ => 0)))] = n.toNatClampNeg := by simp [am_ns, am_z]
        rw [am_ns_app, hz1] at hrs
        rw [List.length_append, List.length_singleton] at hrc
        refine va_newa (ty := .int) hF.1 hF.2.1 (hF.words _ pg_ac_int) rfl hF.K hD.1 (am_w_D bs hz dA σ) hD.2.1 (fun q h => Nat.le_trans hF.hl h) (a0 := (n.toNatClampNeg, .inl (fun _ => 0))) (fun _ => rfl) hn0 rfl (by simp only [componentBytes]; omega) (by omega) (by omega) hd (fun q cA H1 hK1 h1 h2 h3 => ?_)
        have e0 : dA 0 = cA := Option.some.inj ((hF.K.2 0 _ rfl).2.symm.trans (hK1.2 4 (cA, .int) rfl).2)
        subst e0
        refine am_Dy.new (x := .inl (0, (n.toNatClampNeg, .inl (fun _ => 0)))) hF.hl hD h1 h2 h3 (fun hq hD1 => ?_)
        subst hq
        exact kk H1 locs (cells + 1) (slots + n.toNatClampNeg) lsA hD1 hL (by rw [List.length_append, List.length_singleton]; omega) (by rw [am_ns_app, hz1]; omega)
      · obtain ⟨rfl, rfl, rfl, rfl⟩ : pc + 2 = pc' ∧ ls = ls' ∧ Value.ref σ.length :: r = st' ∧ σ ++ [.inl (1, (n.toNatClampNeg, .inl (fun _ => 0)))] = σ1 := by simpa using hs
        have hz1 : am_ns [.inl (1, (n.toNatClampNeg, .inl (fun _ => 0)))] = n.toNatClampNeg := by simp [am_ns, am_z]
        rw [am_ns_app, hz1] at hrs
        rw [List.length_append, List.length_singleton] at hrc
        refine va_newa (ty := .boolean) hF.1 hF.2.1 (hF.words _ pg_ac_bool) rfl hF.K hD.1 (am_w_D bs hz dA σ) hD.2.1 (fun q h => Nat.le_trans hF.hl h) (a0 := (n.toNatClampNeg, .inl (fun _ => 0))) (fun _ => rfl) hn0 rfl (by simp only [componentBytes]; omega) (by omega) (by omega) hd (fun q cA H1 hK1 h1 h2 h3 => ?_)
        have e0 : dA 1 = cA := Option.some.inj ((hF.K.2 1 _ rfl).2.symm.trans (hK1.2 4 (cA, .boolean) rfl).2)
        subst e0
        refine am_Dy.new (x := .inl (1, (n.toNatClampNeg, .inl (fun _ => 0)))) hF.hl hD h1 h2 h3 (fun hq hD1 => ?_)
        subst hq
        exact kk H1 locs (cells + 1) (slots + n.toNatClampNeg) lsA hD1 hL (by rw [List.length_append, List.length_singleton]; omega) (by rw [am_ns_app, hz1]; omega)
      · cases hs
  next => cases hs
theorem am_s_ar {idx : Nat} (hF : am_Fr bs hz dC dI dA L xs p R s m args meth c d y) (hD : am_Dy bs hz dC dI dA s H locs cells σ) (hL : am_L bs hz lsA ls (pg_maxL y))
    (hd : decode (pg_code y) pc = .ok (.anewarray idx, 3)) (hs : am_ar (pg_own y) idx pc ls st σ = some (pc', ls', st', σ1)) (hrc : cells + σ1.length ≤ R.cells + σ.length) (hrs : slots + am_ns σ1 ≤ R.slots + am_ns σ) :
    am_G p l e R s m args below meth c H locs cells slots Q bs hz dC dI dA y pc st σ lsA pc' ls' st' σ1 := by
  intro kk
  unfold am_ar at hs
  split at hs
  next n r =>
    split at hs
    next => cases hs
    next hn =>
      have hn0 : ¬ n < 0 := fun h => hn (Or.inl h)
      have hn1 : n.toNatClampNeg ≤ 10000 := Nat.not_lt.mp fun h => hn (Or.inr h)
      split at hs
      next hana =>
        obtain ⟨rfl, rfl, rfl, rfl⟩ : pc + 3 = pc' ∧ ls = ls' ∧ Value.ref σ.length :: r = st' ∧ σ ++ [.inl (2, (n.toNatClampNeg, .inr (.inr (.inr (.inr (fun _ => none))))))] = σ1 := by simpa using hs
        have hz1 : am_ns [.inl (2, (n.toNatClampNeg, .inr (.inr (.inr (.inr (fun _ => none))))))] = n.toNatClampNeg := by simp [am_ns, am_z]
        rw [am_ns_app, hz1] at hrs
        rw [List.length_append, List.length_singleton] at hrc
        have hlk := pg_ana_ok hana
        refine va_newq hF.1 hF.2.1 hF.own (hF.words _ hlk) hF.x0.1 hF.K hD.1 (am_w_D bs hz dA σ) hD.2.1 (fun q h => Nat.le_trans hF.hl h) hn0 rfl (by omega) (by omega) (by omega) hd (fun q cA H1 hK1 h1 h2 h3 => ?_)
        have e0 : dA 2 = cA := by
          obtain ⟨_, _, _, _, _, h6⟩ := (hF.K.2 2 _ rfl).2
          obtain ⟨_, _, _, _, _, h7⟩ := (hK1.2 4 (cA, .object (pg_cn pg_ae)) rfl).2
          exact Option.some.inj (h6.symm.trans h7)
        subst e0
        refine am_Dy.new (x := .inl (2, (n.toNatClampNeg, .inr (.inr (.inr (.inr (fun _ => none))))))) hF.hl hD h1 h2 h3 (fun hq hD1 => ?_)
        subst hq
        exact kk H1 locs (cells + 1) (slots + n.toNatClampNeg) lsA hD1 hL (by rw [List.length_append, List.length_singleton]; omega) (by rw [am_ns_app, hz1]; omega)
      next => cases hs
  next => cases hs
end amS
