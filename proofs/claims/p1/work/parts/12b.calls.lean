/-! Calls as rows, by the number of arguments -/
theorem am_ite {a b : Prop} [Decidable a] [Decidable b] (c d : Prop) (_ : True) (e : (a) = (b)) : (if a then c else d) = (if b then c else d) := by
  subst e
  by_cases h : a
  · rw [if_pos h, if_pos h]
  · rw [if_neg h, if_neg h]
section amV
variable {L : Nat} {xs : Nat → Int32} {d y pc : Nat} {ls st : List Value} {σ : am_S} {Q : Option Value → am_S → Prop}
theorem am_stuckC {i : Instr} {len z : Nat} {as rest : List Value} (hd : decode (pg_code y) pc = .ok (i, len)) (hl : am_lo i len = true) (hr : am_ret y i st = none) (hc : am_cl y i st σ = some (z, as, rest)) (ho : ¬ (as.all am_ok = true ∧ as.length ≤ pg_maxL z)) :
    am_Rn L xs d y pc ls st σ Q = False := by
  have e : ∀ n, am_run L xs (n + 1) d y pc ls st σ = none := by
    intro n
    show am_body L xs (am_run L xs n) d y pc ls st σ = _
    unfold am_body
    rw [hd]
    dsimp only
    rw [if_neg (by rw [hl]; decide), hr]
    dsimp only
    rw [hc]
    dsimp only
    rw [if_neg ho]
  apply propext
  refine ⟨?_, fun h => h.elim⟩
  rintro ⟨n, r, σ', h, hq⟩
  cases n with
  | zero => cases h
  | succ n => rw [e] at h; cases h
/-- the class of the object at a place -/
def am_oc (σ : am_S) (p : Nat) : Nat := match σ[p]? with
  | some (.inr (ci, _)) => ci
  | _ => 99
theorem am_R_virtual {idx z p c n : Nat} {as : List Value} (hd : decode (pg_code y) pc = .ok (.invokevirtual idx, 3)) (hm : pg_mth (pg_own y) idx = some z) (hz : z < pg_num ∧ pg_mk z = 0) (ha : pg_np z = n) (han : as.length = n) (hc : pg_own z = c) (hl : n + 1 ≤ pg_maxL z) :
    am_Rn L xs (d + 1) y pc ls (as.reverse ++ .ref p :: st) σ Q = ((am_oc σ p = c ∧ st.length ≤ 4 ∧ as.all am_ok = true) ∧ am_Call L xs d z (.ref p :: as) σ (fun r σ1 => am_Rn L xs (d + 1) y (pc + 3) ls (r.toList ++ st) σ1 Q)) := by
  have hc7 : c < 7 := by rw [← hc]; exact (pg_d (Nat.le_of_lt hz.1)).2.2.2.2.2.2.2.2 hz.2
  have hla : as.length = pg_np z := by rw [ha]; exact han
  have hl2 : as.reverse.length = pg_np z := by rw [List.length_reverse]; exact hla
  have h1 : (as.reverse ++ Value.ref p :: st).drop (pg_np z) = .ref p :: st := by rw [← hl2, List.drop_left']; rfl
  have h2 : (as.reverse ++ Value.ref p :: st).take (pg_np z) = as.reverse := by rw [← hl2, List.take_left']; rfl
  by_cases h : am_oc σ p = c ∧ st.length ≤ 4 ∧ as.all am_ok = true
  · obtain ⟨g1, g2, g3⟩ := h
    have hp : ∃ fs, σ[p]? = some (.inr (c, fs)) := by
      unfold am_oc at g1
      split at g1
      next ci fs hq => subst g1; exact ⟨fs, hq⟩
      next => omega
    obtain ⟨fs, hp⟩ := hp
    rw [am_r_virtual hd hm hz hla g2 hp hc.symm ⟨g3, by omega⟩]
    exact propext ⟨fun q => ⟨⟨g1, g2, g3⟩, q⟩, fun q => q.2⟩
  · refine Eq.trans ?_ (propext ⟨fun q => q.elim, fun q => h q.1⟩ : False = _)
    by_cases h3 : am_oc σ p = c ∧ st.length ≤ 4
    · have hp : ∃ fs, σ[p]? = some (.inr (c, fs)) := by
        have g1 := h3.1
        unfold am_oc at g1
        split at g1
        next ci fs hq => subst g1; exact ⟨fs, hq⟩
        next => omega
      obtain ⟨fs, hp⟩ := hp
      refine am_stuckC (z := z) (as := .ref p :: as) (rest := st) hd rfl rfl ?_ (fun q => h ⟨h3.1, h3.2, ?_⟩)
      · simp only [am_cl, hm]
        rw [if_pos hz, h1, h2]
        simp only [hp]
        rw [if_pos ⟨hc.symm, h3.2, hl2⟩, List.reverse_reverse]
      · have := q.1
        rw [List.all_cons, Bool.and_eq_true] at this
        exact this.2
    · refine am_stuck hd rfl rfl ?_ rfl
      simp only [am_cl, hm]
      rw [if_pos hz, h1]
      dsimp only
      split
      next ci fs hq =>
        rw [if_neg]
        rintro ⟨q1, q2, -⟩
        refine h3 ⟨?_, q2⟩
        unfold am_oc
        rw [hq]
        rw [← hc]; exact q1
      next => rfl
theorem am_R_special {idx z p n : Nat} {as : List Value} (hd : decode (pg_code y) pc = .ok (.invokespecial idx, 3)) (hm : pg_mth (pg_own y) idx = some z) (hz : z < pg_num ∧ pg_mk z = 1) (ha : pg_np z = n) (han : as.length = n) (hl : n + 1 ≤ pg_maxL z) (hr : st.length ≤ 4 ∧ as.all am_ok = true) :
    am_Rn L xs (d + 1) y pc ls (as.reverse ++ .ref p :: st) σ Q = am_Call L xs d z (.ref p :: as) σ (fun r σ1 => am_Rn L xs (d + 1) y (pc + 3) ls (r.toList ++ st) σ1 Q) :=
  am_r_special hd hm hz (by rw [ha]; exact han) hr.1 ⟨hr.2, by omega⟩
theorem am_R_static {idx z n : Nat} {as : List Value} (hd : decode (pg_code y) pc = .ok (.invokestatic idx, 3)) (hm : pg_mth (pg_own y) idx = some z) (hz : z < pg_num ∧ pg_mk z = 2) (ha : pg_np z = n) (han : as.length = n) (hl : n ≤ pg_maxL z) :
    am_Rn L xs (d + 1) y pc ls (as.reverse ++ st) σ Q = ((st.length ≤ 4 ∧ as.all am_ok = true) ∧ am_Call L xs d z as σ (fun r σ1 => am_Rn L xs (d + 1) y (pc + 3) ls (r.toList ++ st) σ1 Q)) := by
  have hla : as.length = pg_np z := by rw [ha]; exact han
  have hl2 : as.reverse.length = pg_np z := by rw [List.length_reverse]; exact hla
  have h1 : (as.reverse ++ st).drop (pg_np z) = st := by rw [← hl2, List.drop_left']; rfl
  have h2 : (as.reverse ++ st).take (pg_np z) = as.reverse := by rw [← hl2, List.take_left']; rfl
  by_cases h : st.length ≤ 4 ∧ as.all am_ok = true
  · rw [am_r_static hd hm hz hla h.1 ⟨h.2, by omega⟩]
    exact propext ⟨fun q => ⟨h, q⟩, fun q => q.2⟩
  · refine Eq.trans ?_ (propext ⟨fun q => q.elim, fun q => h q.1⟩ : False = _)
    by_cases h3 : st.length ≤ 4
    · refine am_stuckC (z := z) (as := as) (rest := st) hd rfl rfl ?_ (fun q => h ⟨h3, q.1⟩)
      simp only [am_cl, hm]
      rw [if_pos hz, h1, h2, if_pos ⟨h3, hl2⟩, List.reverse_reverse]
    · refine am_stuck hd rfl rfl ?_ ?_
      · simp only [am_cl, hm]
        rw [if_pos hz, h1, if_neg (fun q => h3 q.1)]
      · show am_spc 1 d.succ (pg_own y) idx pc ls _ σ = none
        unfold am_spc
        rw [hm]
        refine if_neg ?_
        have := pg_num_lt
        rintro (⟨q, -⟩ | ⟨-, q⟩)
        · cases q
        · omega
theorem am_R_virtual0 {idx z p c : Nat} (hd : decode (pg_code y) pc = .ok (.invokevirtual idx, 3)) (hm : pg_mth (pg_own y) idx = some z) (hz : z < pg_num ∧ pg_mk z = 0) (ha : pg_np z = 0) (hc : pg_own z = c) (hl : 1 ≤ pg_maxL z) : am_Rn L xs (d + 1) y pc ls (.ref p :: st) σ Q = ((am_oc σ p = c ∧ st.length ≤ 4) ∧ am_Call L xs d z [.ref p] σ (fun r σ1 => am_Rn L xs (d + 1) y (pc + 3) ls (r.toList ++ st) σ1 Q)) := by
  refine (am_R_virtual (as := []) hd hm hz ha rfl hc hl).trans ?_
  simp only [List.all_cons, List.all_nil, Bool.and_eq_true, and_true]
theorem am_R_static0 {idx z : Nat} (hd : decode (pg_code y) pc = .ok (.invokestatic idx, 3)) (hm : pg_mth (pg_own y) idx = some z) (hz : z < pg_num ∧ pg_mk z = 2) (ha : pg_np z = 0) (hl : 0 ≤ pg_maxL z) : am_Rn L xs (d + 1) y pc ls (st) σ Q = ((st.length ≤ 4) ∧ am_Call L xs d z [] σ (fun r σ1 => am_Rn L xs (d + 1) y (pc + 3) ls (r.toList ++ st) σ1 Q)) := by
  refine (am_R_static (as := []) hd hm hz ha rfl hl).trans ?_
  simp only [List.all_cons, List.all_nil, Bool.and_eq_true, and_true]
theorem am_R_virtual1 {idx z p c : Nat} {a1 : Value} (hd : decode (pg_code y) pc = .ok (.invokevirtual idx, 3)) (hm : pg_mth (pg_own y) idx = some z) (hz : z < pg_num ∧ pg_mk z = 0) (ha : pg_np z = 1) (hc : pg_own z = c) (hl : 2 ≤ pg_maxL z) : am_Rn L xs (d + 1) y pc ls (a1 :: .ref p :: st) σ Q = ((am_oc σ p = c ∧ st.length ≤ 4 ∧ am_ok a1 = true) ∧ am_Call L xs d z [.ref p, a1] σ (fun r σ1 => am_Rn L xs (d + 1) y (pc + 3) ls (r.toList ++ st) σ1 Q)) := by
  refine (am_R_virtual (as := [a1]) hd hm hz ha rfl hc hl).trans ?_
  simp only [List.all_cons, List.all_nil, Bool.and_true]
theorem am_R_static1 {idx z : Nat} {a1 : Value} (hd : decode (pg_code y) pc = .ok (.invokestatic idx, 3)) (hm : pg_mth (pg_own y) idx = some z) (hz : z < pg_num ∧ pg_mk z = 2) (ha : pg_np z = 1) (hl : 1 ≤ pg_maxL z) : am_Rn L xs (d + 1) y pc ls (a1 :: st) σ Q = ((st.length ≤ 4 ∧ am_ok a1 = true) ∧ am_Call L xs d z [a1] σ (fun r σ1 => am_Rn L xs (d + 1) y (pc + 3) ls (r.toList ++ st) σ1 Q)) := by
  refine (am_R_static (as := [a1]) hd hm hz ha rfl hl).trans ?_
  simp only [List.all_cons, List.all_nil, Bool.and_true]
theorem am_R_virtual2 {idx z p c : Nat} {a1 a2 : Value} (hd : decode (pg_code y) pc = .ok (.invokevirtual idx, 3)) (hm : pg_mth (pg_own y) idx = some z) (hz : z < pg_num ∧ pg_mk z = 0) (ha : pg_np z = 2) (hc : pg_own z = c) (hl : 3 ≤ pg_maxL z) : am_Rn L xs (d + 1) y pc ls (a2 :: a1 :: .ref p :: st) σ Q = ((am_oc σ p = c ∧ st.length ≤ 4 ∧ am_ok a1 = true ∧ am_ok a2 = true) ∧ am_Call L xs d z [.ref p, a1, a2] σ (fun r σ1 => am_Rn L xs (d + 1) y (pc + 3) ls (r.toList ++ st) σ1 Q)) := by
  refine (am_R_virtual (as := [a1, a2]) hd hm hz ha rfl hc hl).trans ?_
  simp only [List.all_cons, List.all_nil, Bool.and_eq_true, and_true]
theorem am_R_static2 {idx z : Nat} {a1 a2 : Value} (hd : decode (pg_code y) pc = .ok (.invokestatic idx, 3)) (hm : pg_mth (pg_own y) idx = some z) (hz : z < pg_num ∧ pg_mk z = 2) (ha : pg_np z = 2) (hl : 2 ≤ pg_maxL z) : am_Rn L xs (d + 1) y pc ls (a2 :: a1 :: st) σ Q = ((st.length ≤ 4 ∧ am_ok a1 = true ∧ am_ok a2 = true) ∧ am_Call L xs d z [a1, a2] σ (fun r σ1 => am_Rn L xs (d + 1) y (pc + 3) ls (r.toList ++ st) σ1 Q)) := by
  refine (am_R_static (as := [a1, a2]) hd hm hz ha rfl hl).trans ?_
  simp only [List.all_cons, List.all_nil, Bool.and_eq_true, and_true]
theorem am_R_virtual3 {idx z p c : Nat} {a1 a2 a3 : Value} (hd : decode (pg_code y) pc = .ok (.invokevirtual idx, 3)) (hm : pg_mth (pg_own y) idx = some z) (hz : z < pg_num ∧ pg_mk z = 0) (ha : pg_np z = 3) (hc : pg_own z = c) (hl : 4 ≤ pg_maxL z) : am_Rn L xs (d + 1) y pc ls (a3 :: a2 :: a1 :: .ref p :: st) σ Q = ((am_oc σ p = c ∧ st.length ≤ 4 ∧ am_ok a1 = true ∧ am_ok a2 = true ∧ am_ok a3 = true) ∧ am_Call L xs d z [.ref p, a1, a2, a3] σ (fun r σ1 => am_Rn L xs (d + 1) y (pc + 3) ls (r.toList ++ st) σ1 Q)) := by
  refine (am_R_virtual (as := [a1, a2, a3]) hd hm hz ha rfl hc hl).trans ?_
  simp only [List.all_cons, List.all_nil, Bool.and_eq_true, and_true]
theorem am_R_static3 {idx z : Nat} {a1 a2 a3 : Value} (hd : decode (pg_code y) pc = .ok (.invokestatic idx, 3)) (hm : pg_mth (pg_own y) idx = some z) (hz : z < pg_num ∧ pg_mk z = 2) (ha : pg_np z = 3) (hl : 3 ≤ pg_maxL z) : am_Rn L xs (d + 1) y pc ls (a3 :: a2 :: a1 :: st) σ Q = ((st.length ≤ 4 ∧ am_ok a1 = true ∧ am_ok a2 = true ∧ am_ok a3 = true) ∧ am_Call L xs d z [a1, a2, a3] σ (fun r σ1 => am_Rn L xs (d + 1) y (pc + 3) ls (r.toList ++ st) σ1 Q)) := by
  refine (am_R_static (as := [a1, a2, a3]) hd hm hz ha rfl hl).trans ?_
  simp only [List.all_cons, List.all_nil, Bool.and_eq_true, and_true]
theorem am_R_virtual4 {idx z p c : Nat} {a1 a2 a3 a4 : Value} (hd : decode (pg_code y) pc = .ok (.invokevirtual idx, 3)) (hm : pg_mth (pg_own y) idx = some z) (hz : z < pg_num ∧ pg_mk z = 0) (ha : pg_np z = 4) (hc : pg_own z = c) (hl : 5 ≤ pg_maxL z) : am_Rn L xs (d + 1) y pc ls (a4 :: a3 :: a2 :: a1 :: .ref p :: st) σ Q = ((am_oc σ p = c ∧ st.length ≤ 4 ∧ am_ok a1 = true ∧ am_ok a2 = true ∧ am_ok a3 = true ∧ am_ok a4 = true) ∧ am_Call L xs d z [.ref p, a1, a2, a3, a4] σ (fun r σ1 => am_Rn L xs (d + 1) y (pc + 3) ls (r.toList ++ st) σ1 Q)) := by
  refine (am_R_virtual (as := [a1, a2, a3, a4]) hd hm hz ha rfl hc hl).trans ?_
  simp only [List.all_cons, List.all_nil, Bool.and_eq_true, and_true]
theorem am_R_static4 {idx z : Nat} {a1 a2 a3 a4 : Value} (hd : decode (pg_code y) pc = .ok (.invokestatic idx, 3)) (hm : pg_mth (pg_own y) idx = some z) (hz : z < pg_num ∧ pg_mk z = 2) (ha : pg_np z = 4) (hl : 4 ≤ pg_maxL z) : am_Rn L xs (d + 1) y pc ls (a4 :: a3 :: a2 :: a1 :: st) σ Q = ((st.length ≤ 4 ∧ am_ok a1 = true ∧ am_ok a2 = true ∧ am_ok a3 = true ∧ am_ok a4 = true) ∧ am_Call L xs d z [a1, a2, a3, a4] σ (fun r σ1 => am_Rn L xs (d + 1) y (pc + 3) ls (r.toList ++ st) σ1 Q)) := by
  refine (am_R_static (as := [a1, a2, a3, a4]) hd hm hz ha rfl hl).trans ?_
  simp only [List.all_cons, List.all_nil, Bool.and_eq_true, and_true]
theorem am_R_virtual5 {idx z p c : Nat} {a1 a2 a3 a4 a5 : Value} (hd : decode (pg_code y) pc = .ok (.invokevirtual idx, 3)) (hm : pg_mth (pg_own y) idx = some z) (hz : z < pg_num ∧ pg_mk z = 0) (ha : pg_np z = 5) (hc : pg_own z = c) (hl : 6 ≤ pg_maxL z) : am_Rn L xs (d + 1) y pc ls (a5 :: a4 :: a3 :: a2 :: a1 :: .ref p :: st) σ Q = ((am_oc σ p = c ∧ st.length ≤ 4 ∧ am_ok a1 = true ∧ am_ok a2 = true ∧ am_ok a3 = true ∧ am_ok a4 = true ∧ am_ok a5 = true) ∧ am_Call L xs d z [.ref p, a1, a2, a3, a4, a5] σ (fun r σ1 => am_Rn L xs (d + 1) y (pc + 3) ls (r.toList ++ st) σ1 Q)) := by
  refine (am_R_virtual (as := [a1, a2, a3, a4, a5]) hd hm hz ha rfl hc hl).trans ?_
  simp only [List.all_cons, List.all_nil, Bool.and_eq_true, and_true]
theorem am_R_static5 {idx z : Nat} {a1 a2 a3 a4 a5 : Value} (hd : decode (pg_code y) pc = .ok (.invokestatic idx, 3)) (hm : pg_mth (pg_own y) idx = some z) (hz : z < pg_num ∧ pg_mk z = 2) (ha : pg_np z = 5) (hl : 5 ≤ pg_maxL z) : am_Rn L xs (d + 1) y pc ls (a5 :: a4 :: a3 :: a2 :: a1 :: st) σ Q = ((st.length ≤ 4 ∧ am_ok a1 = true ∧ am_ok a2 = true ∧ am_ok a3 = true ∧ am_ok a4 = true ∧ am_ok a5 = true) ∧ am_Call L xs d z [a1, a2, a3, a4, a5] σ (fun r σ1 => am_Rn L xs (d + 1) y (pc + 3) ls (r.toList ++ st) σ1 Q)) := by
  refine (am_R_static (as := [a1, a2, a3, a4, a5]) hd hm hz ha rfl hl).trans ?_
  simp only [List.all_cons, List.all_nil, Bool.and_eq_true, and_true]
theorem am_R_virtual6 {idx z p c : Nat} {a1 a2 a3 a4 a5 a6 : Value} (hd : decode (pg_code y) pc = .ok (.invokevirtual idx, 3)) (hm : pg_mth (pg_own y) idx = some z) (hz : z < pg_num ∧ pg_mk z = 0) (ha : pg_np z = 6) (hc : pg_own z = c) (hl : 7 ≤ pg_maxL z) : am_Rn L xs (d + 1) y pc ls (a6 :: a5 :: a4 :: a3 :: a2 :: a1 :: .ref p :: st) σ Q = ((am_oc σ p = c ∧ st.length ≤ 4 ∧ am_ok a1 = true ∧ am_ok a2 = true ∧ am_ok a3 = true ∧ am_ok a4 = true ∧ am_ok a5 = true ∧ am_ok a6 = true) ∧ am_Call L xs d z [.ref p, a1, a2, a3, a4, a5, a6] σ (fun r σ1 => am_Rn L xs (d + 1) y (pc + 3) ls (r.toList ++ st) σ1 Q)) := by
  refine (am_R_virtual (as := [a1, a2, a3, a4, a5, a6]) hd hm hz ha rfl hc hl).trans ?_
  simp only [List.all_cons, List.all_nil, Bool.and_eq_true, and_true]
theorem am_R_static6 {idx z : Nat} {a1 a2 a3 a4 a5 a6 : Value} (hd : decode (pg_code y) pc = .ok (.invokestatic idx, 3)) (hm : pg_mth (pg_own y) idx = some z) (hz : z < pg_num ∧ pg_mk z = 2) (ha : pg_np z = 6) (hl : 6 ≤ pg_maxL z) : am_Rn L xs (d + 1) y pc ls (a6 :: a5 :: a4 :: a3 :: a2 :: a1 :: st) σ Q = ((st.length ≤ 4 ∧ am_ok a1 = true ∧ am_ok a2 = true ∧ am_ok a3 = true ∧ am_ok a4 = true ∧ am_ok a5 = true ∧ am_ok a6 = true) ∧ am_Call L xs d z [a1, a2, a3, a4, a5, a6] σ (fun r σ1 => am_Rn L xs (d + 1) y (pc + 3) ls (r.toList ++ st) σ1 Q)) := by
  refine (am_R_static (as := [a1, a2, a3, a4, a5, a6]) hd hm hz ha rfl hl).trans ?_
  simp only [List.all_cons, List.all_nil, Bool.and_eq_true, and_true]
end amV
