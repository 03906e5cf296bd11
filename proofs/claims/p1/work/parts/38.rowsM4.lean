/-! Rows of the program's instructions, written by program (wip/gen/gen_rows.py) -/
section
variable {L : Nat} {xs : Nat → Int32} {d : Nat} {ls st : List Value} {σ : am_S} {Q : Option Value → am_S → Prop}
theorem d119_0 : decode (pg_code 119) 0 = .ok (.aload_n 0, 1) := by decide +kernel
theorem d119_1 : decode (pg_code 119) 1 = .ok (.getfield 7, 3) := by decide +kernel
theorem d119_4 : decode (pg_code 119) 4 = .ok (.iconst 0, 1) := by decide +kernel
theorem d119_5 : decode (pg_code 119) 5 = .ok (.iaload, 1) := by decide +kernel
theorem d119_6 : decode (pg_code 119) 6 = .ok (.ifCond .eq 21, 3) := by decide +kernel
theorem d119_27 : decode (pg_code 119) 27 = .ok (.iconst (-1), 1) := by decide +kernel
theorem d119_28 : decode (pg_code 119) 28 = .ok (.ireturn, 1) := by decide +kernel
theorem e119 {b1 : Value} : am_Call L xs d 119 [b1] σ Q = am_Rn L xs d 119 0 [b1, .retAddr 0] [] σ Q := rfl
theorem r119_0  : am_Rn L xs d 119 0 ls st σ Q = am_la ls 0 (fun x => am_Rn L xs d 119 1 ls (x :: st) σ Q) := am_r_aload_n d119_0
theorem r119_1 {p : Nat} : am_Rn L xs d 119 1 ls (.ref p :: st) σ Q = am_fd σ p 6 0 (fun v => am_Rn L xs d 119 4 ls (v :: st) σ Q) := am_r_getfield d119_1 rfl
theorem r119_4  : am_Rn L xs d 119 4 ls st σ Q = am_Rn L xs d 119 5 ls (.int 0 :: st) σ Q := am_r_iconst d119_4 (by decide)
theorem r119_5 {p : Nat} {i : Int32} : am_Rn L xs d 119 5 ls (.int i :: .ref p :: st) σ Q = am_ai 0 σ p i (fun x => am_Rn L xs d 119 6 ls (.int x :: st) σ Q) := am_r_iaload d119_5
theorem r119_6 {a : Int32} : am_Rn L xs d 119 6 ls (.int a :: st) σ Q = if a = 0 then am_Rn L xs d 119 27 ls st σ Q else am_Rn L xs d 119 9 ls st σ Q := (am_r_if (t := 27) d119_6 (by decide)).trans (am_ite _ _ trivial (by simp only [am_cond, decide_eq_true_eq]))
theorem r119_27  : am_Rn L xs d 119 27 ls st σ Q = am_Rn L xs d 119 28 ls (.int (-1) :: st) σ Q := am_r_iconst d119_27 (by decide)
theorem r119_28 {v : Int32} : am_Rn L xs d 119 28 ls [.int v] σ Q = Q (some (.int v)) σ := am_r_ireturn d119_28 rfl
end
