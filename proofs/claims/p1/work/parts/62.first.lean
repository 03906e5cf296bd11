/-! The first call on a fresh object -/
theorem first_ok (L : Nat) (xs : Nat → Int32) : all_ok L xs in_St (fun _ => True) := by
  obtain ⟨-, -, f3, f4, f5, f6, f7, f8⟩ := in_facts
  have tr : ∀ a : Int32, (a < 0 ∨ 3 ≤ a) ∨ ∃ j, j < 3 ∧ a = nI j := by
    intro a
    rcases pk_ix a (n := 3) (by decide) with q | q | q
    · exact Or.inl (Or.inl q)
    · exact Or.inl (Or.inr q)
    · exact Or.inr q
  have tc : ∀ a : Int32, (a < 0 ∨ 3 ≤ a) ∨ ∃ j, j < 3 ∧ a = nI j ∧ in_St.2.1 (2 + 5 * j) 4 = 0 := by
    intro a
    rcases tr a with q | ⟨j, h, e⟩
    · exact Or.inl q
    · exact Or.inr ⟨j, h, e, (f5 j h).1⟩
  have tm : ∀ a : Int32, (a < 0 ∨ 3 ≤ a) ∨ ∃ j, j < 3 ∧ a = nI j ∧ in_St.1 122 j = 0 := by
    intro a
    rcases tr a with q | ⟨j, h, e⟩
    · exact Or.inl q
    · exact Or.inr ⟨j, h, e, (f6 j (by omega)).1⟩
  have u0 : in_St.2.1 2 4 = 0 := (f5 0 (by omega)).1
  intro a b c e
  refine ⟨?_, ?_, ?_, ?_, ?_, ?_, ?_, ?_, ?_, ?_, ?_, ?_, ?_⟩
  · rcases tr a with h | ⟨j, h, rfl⟩
    · exact ⟨-1, in_St, in_St, fun Q q => by rw [c_add0T h]; exact q, fun Q q => by rw [m_add0T h]; exact q, trivial⟩
    · have hu := (f5 j h).1
      have hp := (f5 j h).2 0 (by omega)
      have hm := (f6 j (by omega)).1
      by_cases hk : c < 0 ∨ ¬ c < 8
      · exact ⟨-1, in_St, in_St, fun Q q => by rw [c_add0K h hk]; exact q, fun Q q => by rw [m_add0K h hk]; exact q, trivial⟩
      · have hx : ¬ c < 0 := fun q => hk (Or.inl q)
        have hx8 : c < 8 := Classical.not_not.mp fun q => hk (Or.inr q)
        by_cases hb : b = -1
        · subst hb
          have hm1 : (add00 in_St (2 + 5 * j) c e).1 122 j = 0 := by
            unfold add00
            dsimp only
            rw [up_ne _ _ (by omega), up_ne _ _ (by omega), up_ne _ _ (by omega), up_ne _ _ (by omega)]
            exact hm
          exact ⟨0, _, _, fun Q q => by rw [c_add00 h hu hp hx hx8]; exact q, fun Q q => by rw [m_add00 h hm1 hx hx8]; exact q, trivial⟩
        · exact ⟨-1, in_St, in_St, fun Q q => by rw [c_add0P h hu hx hx8 hb]; exact q, fun Q q => by rw [m_add0P h hm hx hx8 hb]; exact q, trivial⟩
  · rcases tr a with h | ⟨j, h, rfl⟩
    · exact ⟨0, in_St, in_St, fun Q q => by rw [c_clear0 h]; exact q, fun Q q => by rw [m_clear0 h]; exact q, trivial⟩
    · exact ⟨1, _, _, fun Q q => by rw [c_clear1 h]; exact q, fun Q q => by rw [m_clear1 h]; exact q, trivial⟩
  · rcases tr a with h | ⟨j, h, rfl⟩
    · exact ⟨-1, in_St, in_St, fun Q q => by rw [c_size0 h]; exact q, fun Q q => by rw [m_size0 h]; exact q, trivial⟩
    · exact ⟨0, in_St, in_St, fun Q q => by rw [c_size1 h, (f5 j h).1]; exact q, fun Q q => by rw [m_size1 h, (f6 j (by omega)).1]; exact q, trivial⟩
  · exact ⟨-1, in_St, in_St, fun Q q => by rw [c_height0 (tc a)]; exact q, fun Q q => by rw [m_height0 (tm a)]; exact q, trivial⟩
  · exact ⟨0, in_St, in_St, fun Q q => by rw [c_alike0 ((tc a).imp_right Or.inr)]; exact q, fun Q q => by rw [m_alike0 (tm a)]; exact q, trivial⟩
  · exact ⟨-1, in_St, in_St, fun Q q => by rw [c_diff0 (tc a)]; exact q, fun Q q => by rw [m_diff0 (tm a)]; exact q, trivial⟩
  · exact ⟨-1, in_St, in_St, fun Q q => by rw [c_partner0 f3]; exact q, fun Q q => by rw [m_partner0 f7]; exact q, trivial⟩
  · exact ⟨-2, in_St, in_St, fun Q q => by rw [c_step0 f3]; exact q, fun Q q => by rw [m_step0 f7]; exact q, trivial⟩
  · exact ⟨0, in_St, in_St, fun Q q => by rw [c_count0 f3]; exact q, fun Q q => by rw [m_count0 (f6 1 (by omega)).2]; exact q, trivial⟩
  · exact ⟨-1, in_St, in_St, fun Q q => by rw [c_replay0 f3]; exact q, fun Q q => by rw [m_replay0 f7]; exact q, trivial⟩
  · exact ⟨-1, in_St, in_St, fun Q q => by rw [c_merge0 u0]; exact q, fun Q q => by rw [m_merge0 (f6 0 (by omega)).1]; exact q, trivial⟩
  · exact ⟨-2, in_St, in_St, fun Q q => by rw [c_node0 f4]; exact q, fun Q q => by rw [m_node0 f8]; exact q, trivial⟩
  · exact ⟨0, in_St, in_St, fun Q q => by rw [c_equal0 f4]; exact q, fun Q q => by rw [m_equal0 f8]; exact q, trivial⟩
/-- a script of at most one call -/
theorem first_run (L : Nat) (xs : Nat → Int32) (hL : L ≤ 5) : ∃ (n : Nat) (σ' : am_S), am_run L xs n 100 pg_num 0 (am_en pg_num [.float 0]) [] [] = some (some (.int 1), σ') ∧ σ'.length ≤ 600000 ∧ am_ns σ' ≤ 7302250 := by
  refine lw_whole (by omega) (fun k s => k = 0 → s = in_St) (fun _ => rfl) (fun k s hk hs => ?_)
  have hk0 : k = 0 := by omega
  have e := hs hk0
  subst e
  refine ⟨?_, fun h => absurd h (by omega)⟩
  have h := first_ok L xs
  have wk : ∀ (z1 z2 : Nat) (as : List Value), op_ok L xs z1 z2 as in_St (fun _ => True) → op_ok L xs z1 z2 as in_St (fun s => k + 1 = 0 → s = in_St) := by
    rintro z1 z2 as ⟨r, s1, s2, a1, a2, -⟩
    exact ⟨r, s1, s2, a1, a2, fun h => absurd h (by omega)⟩
  intro a b c e
  obtain ⟨q0, q1, q2, q3, q4, q5, q6, q7, q8, q9, q10, q11, q12⟩ := h a b c e
  exact ⟨wk _ _ _ q0, wk _ _ _ q1, wk _ _ _ q2, wk _ _ _ q3, wk _ _ _ q4, wk _ _ _ q5, wk _ _ _ q6, wk _ _ _ q7, wk _ _ _ q8, wk _ _ _ q9, wk _ _ _ q10, wk _ _ _ q11, wk _ _ _ q12⟩
