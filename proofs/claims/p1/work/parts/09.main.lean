/-! Soundness -/
section amT
variable {p : Program} {l : Launch} {e : Env} {R : Room} {s : State} {m : MethodId} {args : Array Value} {below : List Frame} {meth : Method} {c : Code} {H : Heap} {locs : List Loc} {cells slots : Nat} {Q : State → Prop}
variable {bs hz : Nat} {dC : Nat → ClassId} {dI : Nat → Nat → Nat} {dA : Nat → ClassId} {L : Nat} {xs : Nat → Int32}
theorem am_s_ret {d y pc len : Nat} {st : List Value} {σ : am_S} {lsA : Array Slot} {i : Instr} {r : Option Value} (hF : am_Fr bs hz dC dI dA L xs p R s m args meth c d y) (hD : am_Dy bs hz dC dI dA s H locs cells σ)
    (hd : decode (pg_code y) pc = .ok (i, len)) (hlo : am_lo i len = true) (h : am_ret y i st = some r) :
    W p l e R s m args below meth c H locs cells slots (MQ below (am_Q bs hz dC dI dA r σ) args s cells slots (fun q => hz ≤ q)) (F0 m pc lsA (st.map (am_cv bs hz))) := by
  have hlocks : meth.locks = false := hF.2.2.2.2.1
  have hret := hF.2.2.2.1
  have fin : ∀ (v : Option Value) (t : State), t.heap = H → am_Q bs hz dC dI dA v σ args s (.returned (v.map (am_cv bs hz))) t := by
    intro v t ht
    refine ⟨rfl, by rw [ht]; exact hD.1, fun q hq => ?_⟩
    rw [ht]
    exact hD.2.1.2.1 q (Nat.lt_of_lt_of_le hq hF.hl) (Nat.not_le.mpr hq)
  cases i <;> simp only [am_ret] at h <;> try (cases h; done)
  · simp only [am_lo, beq_iff_eq] at hlo
    subst hlo
    split at h
    next v =>
      split at h
      next hk =>
        obtain rfl := Option.some.inj h
        have hrt := pg_rk_ok y
        rcases hk with hk | ⟨hk, hv⟩
        · rw [hk] at hrt
          exact W.iret hF.1 hF.2.1 (hret.trans (hrt.2.1 rfl)) (fun t ht _ => fin (some (.int v)) t ht) hD.2.1.2.2 hd
        · rw [hk] at hrt
          refine W.zret (ty := .boolean) hF.1 hF.2.1 (hret.trans (hrt.2.2 rfl)) ?_ (fun t ht _ => fin (some (.int v)) t ht) hD.2.1.2.2 hd
          rcases hv with rfl | rfl <;> decide +kernel
      next => cases h
    next => cases h
  · simp only [am_lo, beq_iff_eq] at hlo
    subst hlo
    split at h
    next =>
      split at h
      next hk =>
        obtain rfl := Option.some.inj h
        have hrt := pg_rk_ok y
        exact W.vret hF.1 hF.2.1 (hret.trans (hrt.1 hk)) (fun t ht _ => fin none t ht) hD.2.1.2.2 hd
      next => cases h
    next => cases h
theorem am_cl_num {y : Nat} {i : Instr} {st : List Value} {σ : am_S} {z : Nat} {as rest : List Value} (h : am_cl y i st σ = some (z, as, rest)) : z < pg_num := by
  cases i <;> simp only [am_cl] at h <;> try (cases h; done)
  all_goals repeat' split at h
  all_goals first
    | (cases h; done)
    | (simp only [Option.some.injEq, Prod.mk.injEq] at h
       obtain ⟨rfl, -, -⟩ := h
       first
       | exact (‹_ ∧ pg_mk _ = 0›).1
       | exact (‹_ ∧ pg_mk _ = 1›).1
       | exact (‹_ ∧ pg_mk _ = 2›).1)
theorem am_good_V {own idx z : Nat} (hm : pg_mth own idx = some z) (hz1 : z < pg_num) (hk : pg_mk z = 0) : GoodIn pg_words (wsV (pg_cn own) idx (pg_cn (pg_own z)) (pg_y z) (pg_w z)) := by
  obtain ⟨h1, h2, h3, h4⟩ := pg_callV hm hz1 hk
  intro w hw
  refine ⟨?_, ?_⟩
  · simp only [wsV, pg_w, List.mem_append, List.mem_cons, List.not_mem_nil, or_false] at hw
    rcases hw with (rfl | rfl | rfl | rfl) | rfl | hw
    · exact h1
    · exact h2
    · exact h3
    · exact h4
    · exact pg_wz hz1
    · exact hw
  · refine pg_good w ?_
    simp only [wsV, pg_w, List.mem_append, List.mem_cons, List.not_mem_nil, or_false] at hw
    rcases hw with (rfl | rfl | rfl | rfl) | rfl | hw
    · exact h1
    · exact h2
    · exact h3
    · exact h4
    · exact pg_wz hz1
    · exact hw
theorem am_good_z {z : Nat} (hz1 : z < pg_num) : GoodIn pg_words (pg_w z) := by
  intro w hw
  have h : w ∈ pg_words := by
    rcases List.mem_cons.mp hw with rfl | hw
    · exact pg_wz hz1
    · exact hw
  exact ⟨h, pg_good w h⟩
theorem am_callrun {d d' y z pc len mcc mss : Nat} {st as rest : List Value} {σ σ1 : am_S} {lsA : Array Slot} {i : Instr} {r1 : Option Value} (hF : am_Fr bs hz dC dI dA L xs p R s m args meth c d y) (hD : am_Dy bs hz dC dI dA s H locs cells σ)
    (hlo : am_lo i len = true) (hd : decode (pg_code y) pc = .ok (i, len)) (hcl : am_cl y i st σ = some (z, as, rest)) (hfix : CallFix p m c (pg_code y) (pg_maxL y) s args pg_words (pg_cn (pg_own y)))
    (hM : Met l (pg_y z) (pg_w z) ({ frames := d', cells := mcc, slots := mss, locals := 60 * d' }) (am_Pc bs hz dC dI dA L xs as σ) (am_Q bs hz dC dI dA r1 σ1) mcc mss (fun q => hz ≤ q))
    (hpre : ∀ U : State, U.heap = H → s.WarmedH U.vm → am_Pc bs hz dC dI dA L xs as σ (as.map (am_cv bs hz)).toArray U) (hroom : d' + 1 ≤ R.frames ∧ 8 + (pg_maxL z + 11) + 60 * d' ≤ R.locals) (hsz : lsA.size = pg_maxL y) (hf : cells + mcc ≤ R.cells ∧ slots + mss ≤ R.slots) :
    va_Run p l e R s m args below meth c H locs cells slots mcc mss (F0 m pc lsA (st.map (am_cv bs hz))) (rest.map (am_cv bs hz)) (am_Q bs hz dC dI dA r1 σ1 (as.map (am_cv bs hz)).toArray) (fun q => hz ≤ q) := by
  have hcat : ∀ r : List Value, r.length ≤ 4 → 2 * (F0 m pc lsA (st.map (am_cv bs hz))).monitorRoom + ((r.map (am_cv bs hz)).map fun v => v.category).sum ≤ 8 := by
    intro r hr
    refine lv_room ?_
    have := am_catsum (bs := bs) (hz := hz) r
    omega
  cases i <;> simp only [am_cl] at hcl <;> try (cases hcl; done)
  case invokevirtual idx =>
    simp only [am_lo, beq_iff_eq] at hlo
    subst hlo
    split at hcl
    next z' hm =>
      split at hcl
      next hz1 =>
        split at hcl
        next b r hdr =>
          split at hcl
          next ci fs hsb =>
            split at hcl
            next hc =>
              obtain ⟨rfl, rfl, rfl⟩ : z' = z ∧ Value.ref b :: (st.take (pg_np z')).reverse = as ∧ r = rest := by simpa using hcl
              obtain ⟨rfl, hr4, hnp⟩ := hc
              obtain ⟨T, N, hcl2⟩ := pg_obj_ok hz1.1 hz1.2
              obtain ⟨d1, d2, d3⟩ := pg_desc hz1.1
              refine va_runV (C := pg_cn (pg_own z')) (b := hz + b) (As := ((st.take (pg_np z')).reverse).map (am_cv bs hz)) hfix hM (cwV (pg_np z') hF.words (am_good_V hm hz1.1 hz1.2) rfl rfl rfl ⟨pg_own_ok (Nat.le_of_lt hz1.1), d1, d2, d3⟩ hroom) ⟨am_blind _ _ _ _ _ _ _ _ _, ?_, fun U hU hW => hpre U hU hW⟩ rfl ?_ hsz ?_ (hcat _ hr4) hd hf
              · exact va_recv hF.K hD.1 hcl2 (am_w_at hsb)
              · rw [List.length_map, List.length_reverse]; exact hnp
              · show st.map (am_cv bs hz) = _
                rw [← List.map_reverse, List.reverse_reverse]
                have e1 : st = st.take (pg_np z') ++ .ref b :: r := by rw [← hdr, List.take_append_drop]
                conv => lhs; rw [e1]
                rw [List.map_append, List.map_cons]
                rfl
            next => cases hcl
          next => cases hcl
        next => cases hcl
      next => cases hcl
    next => cases hcl
  case invokespecial idx =>
    simp only [am_lo, beq_iff_eq] at hlo
    subst hlo
    split at hcl
    next z' hm =>
      split at hcl
      next hz1 =>
        split at hcl
        next b r hdr =>
          split at hcl
          next hc =>
            obtain ⟨rfl, rfl, rfl⟩ : z' = z ∧ Value.ref b :: (st.take (pg_np z')).reverse = as ∧ r = rest := by simpa using hcl
            obtain ⟨hr4, hnp⟩ := hc
            obtain ⟨h1, h2, h3, h4, h5⟩ := pg_callI hm hz1.1 hz1.2
            obtain ⟨d1, d2, d3⟩ := pg_desc hz1.1
            refine va_runI (bytes := pg_code z') (maxL := pg_maxL z') (b := hz + b) (As := ((st.take (pg_np z')).reverse).map (am_cv bs hz)) hfix hM (cwI (ws' := pg_words) (pg_np z') hF.words (am_good_z hz1.1) (by unfold pg_w; rw [h5]) rfl rfl (hF.words _ h3) (hF.words _ h1) (hF.words _ h2) h4 ⟨d1, d2, d3⟩ hroom) ⟨am_blind _ _ _ _ _ _ _ _ _, fun U hU hW => hpre U hU hW⟩ rfl ?_ hsz ?_ (hcat _ hr4) hd hf
            · rw [List.length_map, List.length_reverse]; exact hnp
            · show st.map (am_cv bs hz) = _
              rw [← List.map_reverse, List.reverse_reverse]
              have e1 : st = st.take (pg_np z') ++ .ref b :: r := by rw [← hdr, List.take_append_drop]
              conv => lhs; rw [e1]
              rw [List.map_append, List.map_cons]
              rfl
          next => cases hcl
        next => cases hcl
      next => cases hcl
    next => cases hcl
  case invokestatic idx =>
    simp only [am_lo, beq_iff_eq] at hlo
    subst hlo
    split at hcl
    next z' hm =>
      split at hcl
      next hz1 =>
        split at hcl
        next hc =>
          obtain ⟨rfl, rfl, rfl⟩ : z' = z ∧ (st.take (pg_np z')).reverse = as ∧ st.drop (pg_np z') = rest := by simpa using hcl
          obtain ⟨hr4, hnp⟩ := hc
          obtain ⟨h1, h2, h3⟩ := pg_callS hm hz1.1 hz1.2
          obtain ⟨d1, d2, d3⟩ := pg_desc hz1.1
          have hstk : (F0 m pc lsA (st.map (am_cv bs hz))).stack = (((st.take (pg_np z')).reverse).map (am_cv bs hz)).reverse ++ (st.drop (pg_np z')).map (am_cv bs hz) := by
            show st.map (am_cv bs hz) = _
            rw [← List.map_reverse, List.reverse_reverse, ← List.map_append, List.take_append_drop]
          rcases h1 with h1 | h1
          · refine va_runS (bytes := pg_code z') (maxL := pg_maxL z') (ret := pg_ret z') (As := ((st.take (pg_np z')).reverse).map (am_cv bs hz)) hfix hM ⟨callB_of (ws' := pg_words) (pg_np z') hF.words (am_good_z hz1.1) rfl rfl rfl (hF.words _ h3) (hF.words _ h1) ⟨d1, d2, d3⟩ hroom, hF.words _ h2⟩ ⟨am_blind _ _ _ _ _ _ _ _ _, fun U hU hW => hpre U hU hW⟩ rfl ?_ hsz hstk (hcat _ hr4) hd hf
            rw [List.length_map, List.length_reverse]; exact hnp
          · refine va_runSN (bytes := pg_code z') (maxL := pg_maxL z') (ret := pg_ret z') (host := pg_cn 0) (As := ((st.take (pg_np z')).reverse).map (am_cv bs hz)) hfix hM ⟨va_cnB (ws' := pg_words) (pg_np z') hF.words (am_good_z hz1.1) rfl rfl rfl (hF.x0.2.2 _ h1) (hF.words _ h3) ⟨d1, d2, d3⟩ hroom, hF.words _ h2, trivial⟩ ⟨am_blind _ _ _ _ _ _ _ _ _, fun U hU hW => hpre U hU hW⟩ rfl ?_ hsz hstk (hcat _ hr4) hd hf
            rw [List.length_map, List.length_reverse]; exact hnp
        next => cases hcl
      next => cases hcl
    next => cases hcl
end amT
set_option maxHeartbeats 4000000 in
theorem am_sound {l : Launch} {bs hz : Nat} {dC : Nat → ClassId} {dI : Nat → Nat → Nat} {dA : Nat → ClassId} {L : Nat} {xs : Nat → Int32} :
    ∀ (n d y pc : Nat) (ls st : List Value) (σ : am_S) (r : Option Value) (σ' : am_S), am_run L xs n d y pc ls st σ = some (r, σ') →
    ∀ (p : Program) (e : Env) (R : Room) (s : State) (m : MethodId) (args : Array Value) (below : List Frame) (meth : Method) (c : Code) (H : Heap) (locs : List Loc) (cells slots mc ms : Nat) (lsA : Array Slot),
    am_Fr bs hz dC dI dA L xs p R s m args meth c d y → am_Dy bs hz dC dI dA s H locs cells σ → am_L bs hz lsA ls (pg_maxL y) → cells + σ'.length = mc + σ.length → slots + am_ns σ' = ms + am_ns σ → mc ≤ R.cells → ms ≤ R.slots →
    W p l e R s m args below meth c H locs cells slots (MQ below (am_Q bs hz dC dI dA r σ') args s mc ms (fun q => hz ≤ q)) (F0 m pc lsA (st.map (am_cv bs hz)))
  | 0, _, _, _, _, _, _, _, _, h => by cases h
  | n + 1, d, y, pc, ls, st, σ, r, σ', h => by
    intro p e R s m args below meth c H locs cells slots mc ms lsA hF hD hL hmc hms hRc hRs
    unfold am_run am_body at h
    split at h
    next => cases h
    next i len hd =>
      split at h
      next => cases h
      next hlo =>
        have hlo : am_lo i len = true := by simpa using hlo
        split at h
        next r0 hret =>
          obtain ⟨rfl, rfl⟩ : r0 = r ∧ σ = σ' := by simpa using h
          have e1 : cells = mc := by omega
          have e2 : slots = ms := by omega
          subst e1; subst e2
          exact am_s_ret hF hD hd hlo hret
        next hret =>
          split at h
          next z as rest hcl =>
            split at h
            next has =>
              obtain ⟨hok, hal⟩ := has
              have hok : ∀ v ∈ as, am_ok v = true := fun v hv => List.all_eq_true.mp hok v hv
              split at h
              next => cases h
              next d' =>
                split at h
                next => cases h
                next r1 σ1 h1 =>
                  have g1 := am_rgrow _ _ _ _ _ _ _ _ _ h1
                  have g2 := am_rgrow _ _ _ _ _ _ _ _ _ h
                  have hfr := hF.fr
                  have hlo' := hF.lo
                  have hzn : z < pg_num := am_cl_num hcl
                  have hM : Met l (pg_y z) (pg_w z) ({ frames := d', cells := σ1.length - σ.length, slots := am_ns σ1 - am_ns σ, locals := 60 * d' }) (am_Pc bs hz dC dI dA L xs as σ) (am_Q bs hz dC dI dA r1 σ1) (σ1.length - σ.length) (am_ns σ1 - am_ns σ) (fun q => hz ≤ q) := by
                    refine Met.ofW (cc := pg_code z) (maxL := pg_maxL z) (ret := pg_ret z) (pg_plain hzn) rfl ?_
                    intro p e s m args below meth c s₁ B hml hv
                    obtain ⟨rfl, hsz, hP, hK, hX, hx0⟩ := hv
                    have hin := am_L_in (bs := bs) (hz := hz) hal hok
                    rw [lg_entry_eq]
                    refine am_sound n d' z 0 (am_en z as) [] σ r1 σ1 h1 p e _ s m _ below meth c s.heap [] 0 0 _ _ _ ⟨B.exec, B.bytes, hml, B.returns, B.notSynchronized, fun _ => (name_of_methodNamed B.named B.method).1, ?_, fun w hw => atoms_spec (ws := pg_w z) B.pre w (List.mem_cons_of_mem _ hw), hK, hX, hF.bl, by omega, Nat.le_refl _, Nat.le_refl _, Nat.le_of_lt hzn, hx0⟩ ⟨hP, va_S.rf, by omega⟩ hin.1 (by omega) (by omega) (Nat.le_refl _) (Nat.le_refl _)
                    rw [← pg_own_ok (Nat.le_of_lt hzn)]
                    exact findClass_of_methodNamed B.named
                  have hnl := pg_maxL_ok hzn
                  refine am_size hD hF.hl (fun hsz => ?_)
                  have hpre := am_pre (as := as) hF.K hF.X hF.x0 hF.bl hF.hl hD hsz
                  have hroom : d' + 1 ≤ R.frames ∧ 8 + (pg_maxL z + 11) + 60 * d' ≤ R.locals := ⟨hfr, by omega⟩
                  have go : ∀ (H1 : Heap) (locs1 : List Loc), am_Dy bs hz dC dI dA s H1 locs1 (cells + (σ1.length - σ.length)) σ1 →
                      W p l e R s m args below meth c H1 locs1 (cells + (σ1.length - σ.length)) (slots + (am_ns σ1 - am_ns σ)) (MQ below (am_Q bs hz dC dI dA r σ') args s mc ms (fun q => hz ≤ q)) (F0 m (pc + 3) lsA ((r1.map (am_cv bs hz)).toList ++ rest.map (am_cv bs hz))) := by
                    intro H1 locs1 hD1
                    rw [am_map_toList]
                    exact am_sound n (d' + 1) y (pc + 3) ls (r1.toList ++ rest) σ1 r σ' h p e R s m args below meth c H1 locs1 _ _ mc ms lsA hF hD1 hL (by omega) (by omega) hRc hRs
                  have hfix : CallFix p m c (pg_code y) (pg_maxL y) s args pg_words (pg_cn (pg_own y)) := ⟨hF.1, hF.2.1, hF.2.2.1, hF.own, hF.words⟩
                  refine am_back (arr := (as.map (am_cv bs hz)).toArray) hF.hl hD (by omega) ?_ go
                  exact am_callrun hF hD hlo hd hcl hfix hM hpre hroom hL.2.1 ⟨by omega, by omega⟩
            next => cases h
          next hcl =>
            split at h
            next pc' ls' st' σ1 hs =>
              have g1 := am_grow hs
              have g2 := am_rgrow _ _ _ _ _ _ _ _ _ h
              refine am_sim hF hD hL hd hlo hs (by omega) (by omega) (by omega) (by omega) ?_
              intro H1 locs1 cells1 slots1 lsA1 hD1 hL1 e1 e2
              exact am_sound n d y pc' ls' st' σ1 r σ' h p e R s m args below meth c H1 locs1 cells1 slots1 mc ms lsA1 hF hD1 hL1 (by omega) (by omega) hRc hRs
            next => cases h
