/-! Rows of the program's instructions, written by program (wip/gen/gen_rows.py) -/
section
variable {L : Nat} {xs : Nat → Int32} {d : Nat} {ls st : List Value} {σ : am_S} {Q : Option Value → am_S → Prop}
theorem d2_0 : decode (pg_code 2) 0 = .ok (.iconst 0, 1) := by decide +kernel
theorem d2_1 : decode (pg_code 2) 1 = .ok (.istore_n 2, 1) := by decide +kernel
theorem d2_2 : decode (pg_code 2) 2 = .ok (.aload_n 0, 1) := by decide +kernel
theorem d2_3 : decode (pg_code 2) 3 = .ok (.arraylength, 1) := by decide +kernel
theorem d2_4 : decode (pg_code 2) 4 = .ok (.istore_n 3, 1) := by decide +kernel
theorem d2_5 : decode (pg_code 2) 5 = .ok (.iload_n 2, 1) := by decide +kernel
theorem d2_6 : decode (pg_code 2) 6 = .ok (.iload_n 3, 1) := by decide +kernel
theorem d2_7 : decode (pg_code 2) 7 = .ok (.if_icmp .ge 13, 3) := by decide +kernel
theorem d2_10 : decode (pg_code 2) 10 = .ok (.aload_n 0, 1) := by decide +kernel
theorem d2_11 : decode (pg_code 2) 11 = .ok (.iload_n 2, 1) := by decide +kernel
theorem d2_12 : decode (pg_code 2) 12 = .ok (.iload_n 1, 1) := by decide +kernel
theorem d2_13 : decode (pg_code 2) 13 = .ok (.iastore, 1) := by decide +kernel
theorem d2_14 : decode (pg_code 2) 14 = .ok (.iinc 2 1, 3) := by decide +kernel
theorem d2_17 : decode (pg_code 2) 17 = .ok (.goto (-12), 3) := by decide +kernel
theorem d2_20 : decode (pg_code 2) 20 = .ok (.return_, 1) := by decide +kernel
theorem e2 {b1 b2 : Value} : am_Call L xs d 2 [b1, b2] σ Q = am_Rn L xs d 2 0 [b1, b2, .retAddr 0, .retAddr 0] [] σ Q := rfl
theorem r2_0  : am_Rn L xs d 2 0 ls st σ Q = am_Rn L xs d 2 1 ls (.int 0 :: st) σ Q := am_r_iconst d2_0 (by decide)
theorem r2_1 {x : Int32} : am_Rn L xs d 2 1 ls (.int x :: st) σ Q = (2 < ls.length ∧ am_Rn L xs d 2 2 (ls.set 2 (.int x)) st σ Q) := am_r_istore_n d2_1
theorem r2_2  : am_Rn L xs d 2 2 ls st σ Q = am_la ls 0 (fun x => am_Rn L xs d 2 3 ls (x :: st) σ Q) := am_r_aload_n d2_2
theorem r2_3 {p : Nat} : am_Rn L xs d 2 3 ls (.ref p :: st) σ Q = am_ln σ p (fun x => am_Rn L xs d 2 4 ls (.int x :: st) σ Q) := am_r_arraylength d2_3
theorem r2_4 {x : Int32} : am_Rn L xs d 2 4 ls (.int x :: st) σ Q = (3 < ls.length ∧ am_Rn L xs d 2 5 (ls.set 3 (.int x)) st σ Q) := am_r_istore_n d2_4
theorem r2_5  : am_Rn L xs d 2 5 ls st σ Q = am_li ls 2 (fun x => am_Rn L xs d 2 6 ls (.int x :: st) σ Q) := am_r_iload_n d2_5
theorem r2_6  : am_Rn L xs d 2 6 ls st σ Q = am_li ls 3 (fun x => am_Rn L xs d 2 7 ls (.int x :: st) σ Q) := am_r_iload_n d2_6
theorem r2_7 {a b : Int32} : am_Rn L xs d 2 7 ls (.int b :: .int a :: st) σ Q = if b ≤ a then am_Rn L xs d 2 20 ls st σ Q else am_Rn L xs d 2 10 ls st σ Q := (am_r_icmp (t := 20) d2_7 (by decide)).trans (am_ite _ _ trivial (by simp only [am_cond, decide_eq_true_eq]))
theorem r2_10  : am_Rn L xs d 2 10 ls st σ Q = am_la ls 0 (fun x => am_Rn L xs d 2 11 ls (x :: st) σ Q) := am_r_aload_n d2_10
theorem r2_11  : am_Rn L xs d 2 11 ls st σ Q = am_li ls 2 (fun x => am_Rn L xs d 2 12 ls (.int x :: st) σ Q) := am_r_iload_n d2_11
theorem r2_12  : am_Rn L xs d 2 12 ls st σ Q = am_li ls 1 (fun x => am_Rn L xs d 2 13 ls (.int x :: st) σ Q) := am_r_iload_n d2_12
theorem r2_13 {p : Nat} {i x : Int32} : am_Rn L xs d 2 13 ls (.int x :: .int i :: .ref p :: st) σ Q = am_wi 0 σ p i x (fun σ1 => am_Rn L xs d 2 14 ls st σ1 Q) := am_r_iastore d2_13
theorem r2_14  : am_Rn L xs d 2 14 ls st σ Q = am_li ls 2 (fun x => am_Rn L xs d 2 17 (ls.set 2 (.int (x + 1))) st σ Q) := am_r_iinc d2_14 (by decide)
theorem r2_17  : am_Rn L xs d 2 17 ls st σ Q = am_Rn L xs d 2 5 ls st σ Q := am_r_goto d2_17 (by decide)
theorem r2_20  : am_Rn L xs d 2 20 ls [] σ Q = Q none σ := am_r_return d2_20 rfl
end
