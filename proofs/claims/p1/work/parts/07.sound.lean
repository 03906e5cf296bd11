/-! The abstract machine's runs are the machine's -/
section amS
variable {p : Program} {l : Launch} {e : Env} {R : Room} {s : State} {m : MethodId} {args : Array Value} {below : List Frame} {meth : Method} {c : Code} {H : Heap} {locs : List Loc} {cells slots : Nat} {Q : State → Prop}
variable {bs hz : Nat} {dC : Nat → ClassId} {dI : Nat → Nat → Nat} {dA : Nat → ClassId} {L : Nat} {xs : Nat → Int32}
variable {d y pc : Nat} {ls st ls' st' : List Value} {σ σ1 : am_S} {lsA : Array Slot} {pc' len : Nat}
theorem am_catsum {bs hz : Nat} : ∀ (r : List Value), ((r.map (am_cv bs hz)).map fun v => v.category).sum ≤ 2 * r.length
  | [] => Nat.le_refl _
  | v :: r => by
    have h1 := am_catsum (bs := bs) (hz := hz) r
    have h2 : (am_cv bs hz v).category ≤ 2 := by rcases lv_cat (am_cv bs hz v) with h | h <;> omega
    simp only [List.map_cons, List.sum_cons, List.length_cons]
    omega
theorem am_s_sp {idx sp : Nat} {i : Instr} (hF : am_Fr bs hz dC dI dA L xs p R s m args meth c d y) (hD : am_Dy bs hz dC dI dA s H locs cells σ) (hL : am_L bs hz lsA ls (pg_maxL y)) (hrc : cells ≤ R.cells) (hrs : slots ≤ R.slots)
    (hd : decode (pg_code y) pc = .ok (i, 3)) (hi : (i = .invokespecial idx ∧ sp = 1000) ∨ (i = .invokestatic idx ∧ sp ≠ 1000)) (hm : pg_mth (pg_own y) idx = some sp) (hs : am_sp d sp pc ls st σ = some (pc', ls', st', σ1)) :
    am_G p l e R s m args below meth c H locs cells slots Q bs hz dC dI dA y pc st σ lsA pc' ls' st' σ1 := by
  intro kk
  have hlo := hF.lo
  have hfr := hF.fr
  unfold am_sp at hs
  split at hs
  next => cases hs
  next d' =>
    have hsz : c.maxLocals = lsA.size := by rw [hF.2.2.1, hL.2.1]
    split at hs
    next a r =>
      split at hs
      next hr =>
        obtain ⟨rfl, rfl, rfl, rfl⟩ : pc + 3 = pc' ∧ ls = ls' ∧ r = st' ∧ σ = σ1 := by simpa using hs
        rcases hi with ⟨rfl, -⟩ | ⟨-, h⟩
        · obtain ⟨h1, h2, h3⟩ := pg_sp0 hm
          have hcs := am_catsum (bs := bs) (hz := hz) r
          refine W.objInit hF.1 hF.2.1 hF.own (hF.words _ h1) (hF.words _ h2) (hF.words _ h3) rfl (by show lsA.size = _; rw [hsz]) rfl hd (by omega) ?_ ?_
          · show 2 * 0 + _ + 12 ≤ _
            omega
          · exact kk H locs cells slots lsA hD hL rfl rfl
        · exact absurd rfl h
      next => cases hs
    next b a r =>
      split at hs
      next hr =>
        obtain ⟨rfl, rfl, rfl, rfl⟩ : pc + 3 = pc' ∧ ls = ls' ∧ Value.int (if a < b then b else a) :: r = st' ∧ σ = σ1 := by simpa using hs
        rcases hi with ⟨-, h⟩ | ⟨rfl, -⟩
        · cases h
        · obtain ⟨h1, h2, h3, h4⟩ := pg_sp1 hm
          have hcs := am_catsum (bs := bs) (hz := hz) r
          exact va_mmax hF.1 hF.2.1 hsz hF.own (hF.words _ h1) (hF.words _ h2) (hF.words _ h3) (hF.words _ h4) (by omega) (by omega) hrc hrs hd (kk H locs cells slots lsA hD hL rfl rfl)
      next => cases hs
    next b a r =>
      split at hs
      next hr =>
        obtain ⟨rfl, rfl, rfl, rfl⟩ : pc + 3 = pc' ∧ ls = ls' ∧ Value.int (if b < a then b else a) :: r = st' ∧ σ = σ1 := by simpa using hs
        rcases hi with ⟨-, h⟩ | ⟨rfl, -⟩
        · cases h
        · obtain ⟨h1, h2, h3, h4⟩ := pg_sp2 hm
          have hcs := am_catsum (bs := bs) (hz := hz) r
          exact va_mmin hF.1 hF.2.1 hsz hF.own (hF.words _ h1) (hF.words _ h2) (hF.words _ h3) (hF.words _ h4) (by omega) (by omega) hrc hrs hd (kk H locs cells slots lsA hD hL rfl rfl)
      next => cases hs
    next n dp q sp' a r =>
      split at hs
      next n0 f n1 g hsp hsq =>
        split at hs
        next hc =>
          obtain ⟨hr, h1, h2, h3, h4, h5⟩ := hc
          obtain ⟨rfl, rfl, rfl, rfl⟩ : pc + 3 = pc' ∧ ls = ls' ∧ r = st' ∧ σ.set q (.inl (0, (n1, .inl (va_cpy f g sp'.toNatClampNeg dp.toNatClampNeg n.toNatClampNeg)))) = σ1 := by simpa using hs
          rcases hi with ⟨-, h⟩ | ⟨rfl, -⟩
          · cases h
          · obtain ⟨g1, g2, g3, g4⟩ := pg_sp3 hm
            have hcs := am_catsum (bs := bs) (hz := hz) r
            exact va_copyi hF.1 hF.2.1 hsz hF.own (hF.words _ g1) (hF.words _ g2) (hF.words _ g3) (hF.words _ g4) hF.K hD.1 (am_w_D bs hz dA σ) hD.2.1 a q 0 0 (c0 := dA 0) (c1 := dA 0) (n0 := n0) (n1 := n1) (f := f) (g := g) (ty := .int) (am_w_at hsp) (am_w_at hsq) rfl rfl rfl h1 h2 h3 h4 h5 (fun _ _ => rfl) (by omega) (by
                show _ + (7 + 11) ≤ _
                omega) hd (fun H1 locs1 k1 _ k3 => kk H1 locs1 cells slots lsA (hD.put hsq (x' := .inl (0, (n1, .inl (va_cpy f g sp'.toNatClampNeg dp.toNatClampNeg n.toNatClampNeg)))) k1 k3) hL (by rw [List.length_set]) (by apply am_ns_setE hsq; rfl))
        next => cases hs
      next => cases hs
    next => cases hs
theorem am_s_ma {idx k2 : Nat} (hF : am_Fr bs hz dC dI dA L xs p R s m args meth c d y) (hD : am_Dy bs hz dC dI dA s H locs cells σ) (hL : am_L bs hz lsA ls (pg_maxL y))
    (hd : decode (pg_code y) pc = .ok (.multianewarray idx 2, 4)) (hs : am_ma (pg_own y) idx pc ls st σ = some (pc', ls', st', σ1)) (hrc : cells + σ1.length ≤ R.cells + σ.length) (hrs : slots + am_ns σ1 ≤ R.slots + am_ns σ) :
    am_G p l e R s m args below meth c H locs cells slots Q bs hz dC dI dA y pc st σ lsA pc' ls' st' σ1 := by
  intro kk
  unfold am_ma at hs
  split at hs
  next k n r =>
    split at hs
    next => cases hs
    next hn =>
      have hn0 : ¬ n < 0 := fun h => hn (Or.inl h)
      have hk0 : ¬ k < 0 := fun h => hn (Or.inr (Or.inl h))
      have hn1 : n.toNatClampNeg ≤ 10000 := Nat.not_lt.mp fun h => hn (Or.inr (Or.inr (Or.inl h)))
      have hk1 : k.toNatClampNeg ≤ 10000 := Nat.not_lt.mp fun h => hn (Or.inr (Or.inr (Or.inr h)))
      split at hs
      next hmna =>
        generalize hN : n.toNatClampNeg = N at hs hn1
        generalize hM : k.toNatClampNeg = M at hs hk1
        obtain ⟨rfl, rfl, rfl, rfl⟩ : pc + 4 = pc' ∧ ls = ls' ∧ Value.ref σ.length :: r = st' ∧ σ ++ (.inl (3, (N, .inr (.inr (.inr (.inr (fun j => if j < N then some (σ.length + 1 + j) else none)))))) :: List.replicate N (am_row M)) = σ1 := by simpa using hs
        have hsum : ∀ q, am_ns (List.replicate q (am_row M)) = q * M := by
          intro q
          induction q with
          | zero => simp [am_ns]
          | succ q ih =>
            rw [List.replicate_succ]
            have : am_ns (am_row M :: List.replicate q (am_row M)) = M + am_ns (List.replicate q (am_row M)) := by simp [am_ns, am_row, am_z]
            rw [this, ih, Nat.succ_mul]; omega
        have hz1 : am_ns (.inl (3, (N, .inr (.inr (.inr (.inr (fun j => if j < N then some (σ.length + 1 + j) else none)))))) :: List.replicate N (am_row M)) = N + N * M := by
          rw [← hsum N]; simp [am_ns, am_z]
        rw [am_ns_app, hz1] at hrs
        rw [List.length_append, List.length_cons, List.length_replicate] at hrc
        refine am_size hD hF.hl (fun hsz => ?_)
        refine mw_W hF.1 hF.2.1 hF.own (hF.words _ (pg_mna_ok hmna)) hF.x0.2.1 (hF.words _ pg_ac_int) hd hn0 hk0 (by omega) (by omega) (by omega) (by rw [hN, hM]; omega) (fun cA comp H1 f1 f2 z1 o1 e1 e2 => ?_)
        rw [hN] at z1 e1 e2
        rw [hM] at e2
        rw [hN, hM]
        have a3 : dA 3 = cA := Option.some.inj ((hF.K.2 3 _ rfl).2.symm.trans f1)
        have a0 : dA 0 = comp := Option.some.inj ((hF.K.2 0 _ rfl).2.symm.trans f2)
        subst a3; subst a0
        rw [hsz] at z1 o1 e1 e2
        show W p l e R s m args below meth c H1 _ _ _ Q (F0 m (pc + 4) lsA (.ref H.size :: r.map (am_cv bs hz)))
        rw [hsz]
        refine kk H1 _ _ _ lsA ⟨?_, ⟨?_, ?_, ?_⟩, ?_⟩ hL ?_ ?_
        · intro j q hj
          rw [am_w_get] at hj
          obtain ⟨x, hx, rfl⟩ := Option.map_eq_some_iff.mp hj
          by_cases hjl : j < σ.length
          · rw [List.getElem?_append_left hjl] at hx
            exact (hD.1 j _ (am_w_at hx)).kept (o1 (hz + j) (by omega))
          · rw [List.getElem?_append_right (by omega)] at hx
            by_cases hj0 : j = σ.length
            · subst hj0
              rw [Nat.sub_self] at hx
              cases hx
              show H1[hz + σ.length]? = some (vp_cell (dA 3) (am_ca hz _))
              rw [e1]
              unfold mw_o
              congr 1
              show _ = arrV (dA 3) N (fun j => va_rf ((if j < N then some (σ.length + 1 + j) else none : Option Nat).map (fun q => hz + q)))
              congr 1
              funext i
              by_cases hi : i < N
              · simp only [hi, if_true]
                exact congrArg Value.ref (by omega : (hz + σ.length + 1 + i : Nat) = hz + (σ.length + 1 + i))
              · simp only [hi, if_false]; rfl
            · have hx2 : (List.replicate N (am_row M))[j - σ.length - 1]? = some x := by
                rw [show j - σ.length = (j - σ.length - 1) + 1 by omega, List.getElem?_cons_succ] at hx
                exact hx
              have hlt : j - σ.length - 1 < N := by
                have := (List.getElem?_eq_some_iff.mp hx2).1
                rw [List.length_replicate] at this
                exact this
              rw [List.getElem?_replicate, if_pos hlt] at hx2
              cases hx2
              show H1[hz + j]? = some (vp_cell (dA 0) (am_ca hz _))
              have := e2 (j - σ.length - 1) hlt
              rw [show hz + σ.length + 1 + (j - σ.length - 1) = hz + j by omega] at this
              rw [this]
              rfl
        · have := hD.2.1.1
          omega
        · intro q h1 h2
          have := hF.hl
          rw [o1 q (by omega)]
          exact hD.2.1.2.1 q h1 h2
        · intro q hq
          rcases List.mem_append.mp hq with h | h
          · exact hD.2.1.2.2 q h
          · obtain ⟨z, -, rfl⟩ := List.mem_map.mp h
            show hz ≤ hz + σ.length
            omega
        · have := hD.2.2
          rw [List.length_append, List.length_cons, List.length_replicate]
          omega
        · rw [List.length_append, List.length_cons, List.length_replicate]; omega
        · rw [am_ns_app, hz1]; omega
      next => cases hs
  next => cases hs
set_option maxHeartbeats 4000000 in
theorem am_sim {i : Instr} (hF : am_Fr bs hz dC dI dA L xs p R s m args meth c d y) (hD : am_Dy bs hz dC dI dA s H locs cells σ) (hL : am_L bs hz lsA ls (pg_maxL y))
    (hd : decode (pg_code y) pc = .ok (i, len)) (hlo : am_lo i len = true) (hs : am_simple L xs d y i pc ls st σ = some (pc', ls', st', σ1)) (hc0 : cells ≤ R.cells) (hs0 : slots ≤ R.slots) (hrc : cells + σ1.length ≤ R.cells + σ.length) (hrs : slots + am_ns σ1 ≤ R.slots + am_ns σ) :
    am_G p l e R s m args below meth c H locs cells slots Q bs hz dC dI dA y pc st σ lsA pc' ls' st' σ1 := by
  have hx := hF.1
  have hb := hF.2.1
  cases i <;> try (simp only [am_simple] at hs; cases hs; done)
  case iconst n =>
    simp only [am_lo, beq_iff_eq] at hlo; subst hlo
    intro kk
    obtain ⟨rfl, rfl, rfl, rfl⟩ : pc + 1 = pc' ∧ ls = ls' ∧ Value.int (Int32.ofInt n) :: st = st' ∧ σ = σ1 := by simpa [am_simple] using hs
    exact lv_iconst hx hb hd rfl (kk H locs cells slots lsA hD hL rfl rfl)
  case bipush n =>
    simp only [am_lo, beq_iff_eq] at hlo; subst hlo
    intro kk
    obtain ⟨rfl, rfl, rfl, rfl⟩ : pc + 2 = pc' ∧ ls = ls' ∧ Value.int (Int8.ofInt n).toInt32 :: st = st' ∧ σ = σ1 := by simpa [am_simple] using hs
    exact lv_bipush hx hb hd rfl (kk H locs cells slots lsA hD hL rfl rfl)
  case sipush n =>
    simp only [am_lo, beq_iff_eq] at hlo; subst hlo
    intro kk
    obtain ⟨rfl, rfl, rfl, rfl⟩ : pc + 3 = pc' ∧ ls = ls' ∧ Value.int (Int16.ofInt n).toInt32 :: st = st' ∧ σ = σ1 := by simpa [am_simple] using hs
    exact lv_sipush hx hb hd rfl (kk H locs cells slots lsA hD hL rfl rfl)
  case ldc idx =>
    simp only [am_lo, beq_iff_eq] at hlo; subst hlo
    intro kk
    simp only [am_simple] at hs
    split at hs
    next v hv =>
      obtain ⟨rfl, rfl, rfl, rfl⟩ : pc + 2 = pc' ∧ ls = ls' ∧ Value.int v :: st = st' ∧ σ = σ1 := by simpa using hs
      exact lv_ldc hx hb hF.own (hF.words _ (pg_ldc_ok hv)) hd (kk H locs cells slots lsA hD hL rfl rfl)
    next => cases hs
  case ldc_w idx =>
    simp only [am_lo, beq_iff_eq] at hlo; subst hlo
    intro kk
    simp only [am_simple] at hs
    split at hs
    next v hv =>
      obtain ⟨rfl, rfl, rfl, rfl⟩ : pc + 3 = pc' ∧ ls = ls' ∧ Value.int v :: st = st' ∧ σ = σ1 := by simpa using hs
      exact lv_ldcw hx hb hF.own (hF.words _ (pg_ldc_ok hv)) hd (kk H locs cells slots lsA hD hL rfl rfl)
    next => cases hs
  case iload_n k => simp only [am_lo, beq_iff_eq] at hlo; subst hlo; exact am_s_il hF hD hL hd (Or.inl ⟨k, rfl, rfl, rfl⟩) hs
  case iload k => simp only [am_lo, beq_iff_eq] at hlo; subst hlo; exact am_s_il hF hD hL hd (Or.inr ⟨rfl, rfl⟩) hs
  case aload_n k => simp only [am_lo, beq_iff_eq] at hlo; subst hlo; exact am_s_al hF hD hL hd (Or.inl ⟨k, rfl, rfl, rfl⟩) hs
  case aload k => simp only [am_lo, beq_iff_eq] at hlo; subst hlo; exact am_s_al hF hD hL hd (Or.inr ⟨rfl, rfl⟩) hs
  case istore_n k => simp only [am_lo, beq_iff_eq] at hlo; subst hlo; exact am_s_is hF hD hL hd (Or.inl ⟨k, rfl, rfl, rfl⟩) hs
  case istore k => simp only [am_lo, beq_iff_eq] at hlo; subst hlo; exact am_s_is hF hD hL hd (Or.inr ⟨rfl, rfl⟩) hs
  case astore_n k => simp only [am_lo, beq_iff_eq] at hlo; subst hlo; exact am_s_as hF hD hL hd (Or.inl ⟨k, rfl, rfl, rfl⟩) hs
  case astore k => simp only [am_lo, beq_iff_eq] at hlo; subst hlo; exact am_s_as hF hD hL hd (Or.inr ⟨rfl, rfl⟩) hs
  case iinc k n => simp only [am_lo, beq_iff_eq] at hlo; subst hlo; exact am_s_inc hF hD hL hd hs
  case iadd => simp only [am_lo, beq_iff_eq] at hlo; subst hlo; exact am_s_ii (i := .iadd) hD hL (fun a b rest k => lv_iadd hx hb hd k) hs
  case isub => simp only [am_lo, beq_iff_eq] at hlo; subst hlo; exact am_s_ii (i := .isub) hD hL (fun a b rest k => lv_isub hx hb hd k) hs
  case imul => simp only [am_lo, beq_iff_eq] at hlo; subst hlo; exact am_s_ii (i := .imul) hD hL (fun a b rest k => lv_imul hx hb hd k) hs
  case iand => simp only [am_lo, beq_iff_eq] at hlo; subst hlo; exact am_s_ii (i := .iand) hD hL (fun a b rest k => lv_iand hx hb hd k) hs
  case ior => simp only [am_lo, beq_iff_eq] at hlo; subst hlo; exact am_s_ii (i := .ior) hD hL (fun a b rest k => lv_ior hx hb hd k) hs
  case ixor => simp only [am_lo, beq_iff_eq] at hlo; subst hlo; exact am_s_ii (i := .ixor) hD hL (fun a b rest k => lv_ixor hx hb hd k) hs
  case ishl => simp only [am_lo, beq_iff_eq] at hlo; subst hlo; exact am_s_ii (i := .ishl) hD hL (fun a b rest k => lv_ishl hx hb hd k) hs
  case ishr => simp only [am_lo, beq_iff_eq] at hlo; subst hlo; exact am_s_ii (i := .ishr) hD hL (fun a b rest k => lv_ishr hx hb hd k) hs
  case iushr => simp only [am_lo, beq_iff_eq] at hlo; subst hlo; exact am_s_ii (i := .iushr) hD hL (fun a b rest k => lv_iushr hx hb hd rfl k) hs
  case idiv => simp only [am_lo, beq_iff_eq] at hlo; subst hlo; exact am_s_dv (i := .idiv) hD hL (fun a b rest h k => lv_idiv hx hb hd h k) hs
  case irem => simp only [am_lo, beq_iff_eq] at hlo; subst hlo; exact am_s_dv (i := .irem) hD hL (fun a b rest h k => lv_irem hx hb hd h k) hs
  case ineg =>
    simp only [am_lo, beq_iff_eq] at hlo; subst hlo
    intro kk
    simp only [am_simple, am_ng] at hs
    split at hs
    next a r =>
      obtain ⟨rfl, rfl, rfl, rfl⟩ : pc + 1 = pc' ∧ ls = ls' ∧ Value.int (-a) :: r = st' ∧ σ = σ1 := by simpa using hs
      exact lv_ineg hx hb hd (kk H locs cells slots lsA hD hL rfl rfl)
    next => cases hs
  case dup =>
    simp only [am_lo, beq_iff_eq] at hlo; subst hlo
    intro kk
    simp only [am_simple, am_d0] at hs
    split at hs
    next a r =>
      split at hs
      next ha =>
        obtain ⟨rfl, rfl, rfl, rfl⟩ : pc + 1 = pc' ∧ ls = ls' ∧ a :: a :: r = st' ∧ σ = σ1 := by simpa using hs
        exact lv_dup hx hb hd (am_cat ha) (kk H locs cells slots lsA hD hL rfl rfl)
      next => cases hs
    next => cases hs
  case pop =>
    simp only [am_lo, beq_iff_eq] at hlo; subst hlo
    intro kk
    simp only [am_simple, am_po] at hs
    split at hs
    next a r =>
      split at hs
      next ha =>
        obtain ⟨rfl, rfl, rfl, rfl⟩ : pc + 1 = pc' ∧ ls = ls' ∧ r = st' ∧ σ = σ1 := by simpa using hs
        exact lv_pop hx hb hd (am_cat ha) (kk H locs cells slots lsA hD hL rfl rfl)
      next => cases hs
    next => cases hs
  case dup_x1 =>
    simp only [am_lo, beq_iff_eq] at hlo; subst hlo
    intro kk
    simp only [am_simple, am_d1] at hs
    split at hs
    next a b r =>
      split at hs
      next ha =>
        simp only [Bool.and_eq_true] at ha
        obtain ⟨rfl, rfl, rfl, rfl⟩ : pc + 1 = pc' ∧ ls = ls' ∧ a :: b :: a :: r = st' ∧ σ = σ1 := by simpa using hs
        exact lv_dup_x1 hx hb hd (am_cat ha.1) (am_cat ha.2) (kk H locs cells slots lsA hD hL rfl rfl)
      next => cases hs
    next => cases hs
  case dup_x2 =>
    simp only [am_lo, beq_iff_eq] at hlo; subst hlo
    intro kk
    simp only [am_simple, am_dx] at hs
    split at hs
    next a b z r =>
      split at hs
      next ha =>
        simp only [Bool.and_eq_true] at ha
        obtain ⟨rfl, rfl, rfl, rfl⟩ : pc + 1 = pc' ∧ ls = ls' ∧ a :: b :: z :: a :: r = st' ∧ σ = σ1 := by simpa using hs
        exact lv_dup_x2 hx hb hd (am_cat ha.1.1) (am_cat ha.1.2) (am_cat ha.2) (kk H locs cells slots lsA hD hL rfl rfl)
      next => cases hs
    next => cases hs
  case dup2 =>
    simp only [am_lo, beq_iff_eq] at hlo; subst hlo
    intro kk
    simp only [am_simple, am_d2] at hs
    split at hs
    next a b r =>
      split at hs
      next ha =>
        simp only [Bool.and_eq_true] at ha
        obtain ⟨rfl, rfl, rfl, rfl⟩ : pc + 1 = pc' ∧ ls = ls' ∧ a :: b :: a :: b :: r = st' ∧ σ = σ1 := by simpa using hs
        exact lv_dup2_11 hx hb hd (am_cat ha.1) (am_cat ha.2) (kk H locs cells slots lsA hD hL rfl rfl)
      next => cases hs
    next => cases hs
  case ifCond cn off => simp only [am_lo, beq_iff_eq] at hlo; subst hlo; exact am_s_if hF hD hL hd hs
  case if_icmp cn off => simp only [am_lo, beq_iff_eq] at hlo; subst hlo; exact am_s_ic hF hD hL hd hs
  case goto off => simp only [am_lo, beq_iff_eq] at hlo; subst hlo; exact am_s_goto hF hD hL hd hs
  case tableswitch dflt lo hi offs => exact am_s_ts hF hD hL hd hs
  case lookupswitch dflt ps => exact am_s_lk hF hD hL hd hs
  case getfield idx => simp only [am_lo, beq_iff_eq] at hlo; subst hlo; exact am_s_gf hF hD hL hd hs
  case putfield idx => simp only [am_lo, beq_iff_eq] at hlo; subst hlo; exact am_s_pf hF hD hL hd hs
  case iaload => simp only [am_lo, beq_iff_eq] at hlo; subst hlo; exact am_s_ild hF hD hL hd (by by_cases h : y = pg_num <;> simp [h]) hs
  case iastore => simp only [am_lo, beq_iff_eq] at hlo; subst hlo; exact am_s_ist hF hD hL hd hs
  case baload => simp only [am_lo, beq_iff_eq] at hlo; subst hlo; exact am_s_zld hF hD hL hd hs
  case bastore => simp only [am_lo, beq_iff_eq] at hlo; subst hlo; exact am_s_zst hF hD hL hd hs
  case aaload => simp only [am_lo, beq_iff_eq] at hlo; subst hlo; exact am_s_ald hF hD hL hd hs
  case aastore => simp only [am_lo, beq_iff_eq] at hlo; subst hlo; exact am_s_ast hF hD hL hd hs
  case arraylength => simp only [am_lo, beq_iff_eq] at hlo; subst hlo; exact am_s_len hF hD hL hd (by by_cases h : y = pg_num <;> simp [h]) hs
  case new idx => simp only [am_lo, beq_iff_eq] at hlo; subst hlo; exact am_s_new hF hD hL hd hs hrc hrs
  case newarray t => simp only [am_lo, beq_iff_eq] at hlo; subst hlo; exact am_s_na hF hD hL hd hs hrc hrs
  case anewarray idx => simp only [am_lo, beq_iff_eq] at hlo; subst hlo; exact am_s_ar hF hD hL hd hs hrc hrs
  case multianewarray idx k2 =>
    simp only [am_lo, Bool.and_eq_true, beq_iff_eq] at hlo
    obtain ⟨rfl, rfl⟩ := hlo
    exact am_s_ma (k2 := 2) hF hD hL hd hs hrc hrs
  case invokespecial idx =>
    simp only [am_lo, beq_iff_eq] at hlo; subst hlo
    simp only [am_simple, am_spc] at hs
    split at hs
    next sp hm =>
      split at hs
      next hsp =>
        refine am_s_sp hF hD hL hc0 hs0 hd (Or.inl ⟨rfl, by rcases hsp with ⟨-, h⟩ | ⟨h, -⟩ <;> first | exact h | cases h⟩) hm hs
      next => cases hs
    next => cases hs
  case invokestatic idx =>
    simp only [am_lo, beq_iff_eq] at hlo; subst hlo
    simp only [am_simple, am_spc] at hs
    split at hs
    next sp hm =>
      split at hs
      next hsp =>
        refine am_s_sp hF hD hL hc0 hs0 hd (Or.inr ⟨rfl, by rcases hsp with ⟨h, -⟩ | ⟨-, h⟩ <;> first | omega | cases h⟩) hm hs
      next => cases hs
    next => cases hs
end amS
