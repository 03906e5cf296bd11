/-! From the law's entry: what the abstract machine runs, the machine runs -/
set_option maxHeartbeats 4000000 in
theorem am_begin {p : Program} {l : Launch} {e : Env} {s : State} {m : MethodId} {below : List Frame} {meth : Method} {c : Code} {b L : Nat} {xs : Nat → Int32} (C0 : lw_At p s m meth c b L xs) {n : Nat} {σ' : am_S}
    (hrun : am_run L xs n 100 pg_num 0 (am_en pg_num [.float 0]) [] [] = some (some (.int 1), σ')) (hcn : σ'.length ≤ 600000) (hsn : am_ns σ' ≤ 7302250) :
    W p l e room_1 s m #[Value.ref b] below meth c s.heap [] 0 0 (lw_Z below #[Value.ref b] s) (entryFrame m ([Value.ref b] : List Value).toArray 4) := by
  obtain ⟨hx, hb, hr, hml, hown, hts, hX, hbl, hlocks, hgv⟩ := C0
  have hw : ∀ w ∈ pg_words, w.before #[Value.ref b] s = true := fun w h => hts w (List.mem_filter.mp h).1
  have hkn : ∀ ci : Nat, ∃ (cC : ClassId) (iS : Nat → Nat), ci < 7 → u_Kn s (pg_cn ci) (pg_T ci) (pg_N ci) cC iS := by
    intro ci
    by_cases h : ci < 7
    · have hins : (Cond.instantiable (pg_cn ci) (pg_N ci)).before #[Value.ref b] s = true := hw _ (pg_inst h)
      obtain ⟨cC, iS, hk⟩ := u_known hw (pg_cls h).2.1 hins
      exact ⟨cC, iS, fun _ => hk⟩
    · exact ⟨0, fun _ => 0, fun h2 => absurd h2 h⟩
  obtain ⟨dC, hkn⟩ := Classical.axiomOfChoice hkn
  obtain ⟨dI, hkn⟩ := Classical.axiomOfChoice hkn
  obtain ⟨c0, k0, m0, i1, i2, i3⟩ := Cond.arrayClass_spec (hw _ pg_ac_int)
  obtain ⟨c1, k1, m1, j1, j2, j3⟩ := Cond.arrayClass_spec (hw _ pg_ac_bool)
  have hov := hts _ pg_ov_obj
  obtain ⟨m2, c2, k2, o1, o2, o3, o4, o5⟩ := Cond.arrayOver_spec hov
  obtain ⟨m3, c3, k3, q1, q2, q3, q4, q5⟩ := arrayOverA_spec (hts _ pg_ov_arr)
  have hK : va_K (dC, dI) pg_cl (pg_tys (fun t => [c0, c1, c2, c3].getD t 0)) s := by
    refine ⟨fun ci q hq => ?_, fun k q hk => ?_⟩
    · have hl : ci < 7 := (List.getElem?_eq_some_iff.mp hq).1
      rw [(pg_cls hl).1] at hq
      cases hq
      exact hkn ci hl
    · have hl : k < 4 := (List.getElem?_eq_some_iff.mp hk).1
      match k, hl with
      | 0, _ => cases hk; exact ⟨fun n z => ⟨fun k h => (by cases h), k0, i2, m0, i3⟩, i1⟩
      | 1, _ => cases hk; exact ⟨fun n z => ⟨fun k h => (by cases h), k1, j2, m1, j3⟩, j1⟩
      | 2, _ => cases hk; exact ⟨fun n z => ⟨fun k h => (by cases h), k2, o3, m2, o4⟩, k2, m2, o3, o4, o1, o5⟩
      | 3, _ => cases hk; exact ⟨fun n z => ⟨fun k h => (by cases h), k3, q3, m3, q4⟩, q5⟩
  have hx0 : am_X0 s := by
    refine ⟨va_AO.of hov, ⟨m3, c3, k3, q1, q3, q4, q5⟩, fun w hw => ?_⟩
    have h2 := hts w (pg_nest_in w hw)
    simp only [pg_nest, List.mem_cons, List.not_mem_nil, or_false] at hw
    rcases hw with rfl | rfl
    · exact va_Nw.of rfl h2
    · exact va_Nw.of rfl h2
  have hin := am_L_in (bs := b) (hz := s.heap.size) (vs := [.float 0]) (nL := 4) (by decide) (by intro v hv; rw [List.mem_singleton.mp hv]; rfl)
  have key := am_sound (l := l) (bs := b) (hz := s.heap.size) (dC := dC) (dI := dI) (dA := fun t => [c0, c1, c2, c3].getD t 0) (L := L) (xs := xs) n 100 pg_num 0 (am_en pg_num [.float 0]) [] [] (some (.int 1)) σ' hrun p e room_1 s m #[Value.ref b] below meth c s.heap [] 0 0 σ'.length (am_ns σ') _
    ⟨hx, hb, hml, hr, hlocks, fun h => (by cases h), hown, hw, hK, hX, hbl, Nat.le_refl _, by decide, by decide, Nat.le_refl _, hx0⟩ ⟨fun k q hk => (by simp [am_w] at hk), va_S.rf, by simp⟩ hin.1 (by simp) (by simp [am_ns]) hcn hsn
  rw [lg_entry_eq]
  intro T hT X
  obtain ⟨t, a1, o, b1, b2, b3, LL, b4, b5⟩ := key T hT X
  refine ⟨t, a1, o, b1, b2, b3.1, b4.1, b4.2.1, ?_⟩
  exact b4.2.2.weaken (fun q hq hlt => absurd hlt (Nat.not_lt.mpr (b5 q hq))) hcn hsn
theorem tw_run (L : Nat) (xs : Nat → Int32) (hL : L ≤ 2560) : ∃ (n : Nat) (σ' : am_S), am_run L xs n 100 pg_num 0 (am_en pg_num [.float 0]) [] [] = some (some (.int 1), σ') ∧ σ'.length ≤ 600000 ∧ am_ns σ' ≤ 7302250 := lw_whole hL (fun _ s => gI s) gI_0 (fun _ _ _ h => ⟨all_gI h, h⟩)
theorem whole_start {p : Program} {e : Env} {s : State} {m : MethodId} {below : List Frame} {meth : Method} {c : Code} (l : Launch) {b L : Nat} {xs : Nat → Int32} (hL : L ≤ 2560) (C0 : lw_At p s m meth c b L xs) : W p l e room_1 s m #[Value.ref b] below meth c s.heap [] 0 0 (lw_Z below #[Value.ref b] s) (entryFrame m ([Value.ref b] : List Value).toArray 4) := by
  obtain ⟨n, σ', h1, h2, h3⟩ := tw_run L xs hL
  exact am_begin C0 h1 h2 h3
