/-! Rows of the program's instructions, written by program (wip/gen/gen_rows.py) -/
section
variable {L : Nat} {xs : Nat → Int32} {d : Nat} {ls st : List Value} {σ : am_S} {Q : Option Value → am_S → Prop}
theorem d109_0 : decode (pg_code 109) 0 = .ok (.aload_n 0, 1) := by decide +kernel
theorem d109_1 : decode (pg_code 109) 1 = .ok (.getfield 190, 3) := by decide +kernel
theorem d109_4 : decode (pg_code 109) 4 = .ok (.ifCond .eq 26, 3) := by decide +kernel
theorem d109_30 : decode (pg_code 109) 30 = .ok (.iconst (-1), 1) := by decide +kernel
theorem d109_31 : decode (pg_code 109) 31 = .ok (.ireturn, 1) := by decide +kernel
theorem e109 {b1 b2 : Value} : am_Call L xs d 109 [b1, b2] σ Q = am_Rn L xs d 109 0 [b1, b2] [] σ Q := rfl
theorem r109_0  : am_Rn L xs d 109 0 ls st σ Q = am_la ls 0 (fun x => am_Rn L xs d 109 1 ls (x :: st) σ Q) := am_r_aload_n d109_0
theorem r109_1 {p : Nat} : am_Rn L xs d 109 1 ls (.ref p :: st) σ Q = am_fd σ p 6 26 (fun v => am_Rn L xs d 109 4 ls (v :: st) σ Q) := am_r_getfield d109_1 rfl
theorem r109_4 {a : Int32} : am_Rn L xs d 109 4 ls (.int a :: st) σ Q = if a = 0 then am_Rn L xs d 109 30 ls st σ Q else am_Rn L xs d 109 7 ls st σ Q := (am_r_if (t := 30) d109_4 (by decide)).trans (am_ite _ _ trivial (by simp only [am_cond, decide_eq_true_eq]))
theorem r109_30  : am_Rn L xs d 109 30 ls st σ Q = am_Rn L xs d 109 31 ls (.int (-1) :: st) σ Q := am_r_iconst d109_30 (by decide)
theorem r109_31 {v : Int32} : am_Rn L xs d 109 31 ls [.int v] σ Q = Q (some (.int v)) σ := am_r_ireturn d109_31 rfl
theorem d110_0 : decode (pg_code 110) 0 = .ok (.aload_n 0, 1) := by decide +kernel
theorem d110_1 : decode (pg_code 110) 1 = .ok (.getfield 190, 3) := by decide +kernel
theorem d110_4 : decode (pg_code 110) 4 = .ok (.ifCond .eq 26, 3) := by decide +kernel
theorem d110_30 : decode (pg_code 110) 30 = .ok (.bipush (-2), 2) := by decide +kernel
theorem d110_32 : decode (pg_code 110) 32 = .ok (.ireturn, 1) := by decide +kernel
theorem e110 {b1 b2 b3 : Value} : am_Call L xs d 110 [b1, b2, b3] σ Q = am_Rn L xs d 110 0 [b1, b2, b3, .retAddr 0] [] σ Q := rfl
theorem r110_0  : am_Rn L xs d 110 0 ls st σ Q = am_la ls 0 (fun x => am_Rn L xs d 110 1 ls (x :: st) σ Q) := am_r_aload_n d110_0
theorem r110_1 {p : Nat} : am_Rn L xs d 110 1 ls (.ref p :: st) σ Q = am_fd σ p 6 26 (fun v => am_Rn L xs d 110 4 ls (v :: st) σ Q) := am_r_getfield d110_1 rfl
theorem r110_4 {a : Int32} : am_Rn L xs d 110 4 ls (.int a :: st) σ Q = if a = 0 then am_Rn L xs d 110 30 ls st σ Q else am_Rn L xs d 110 7 ls st σ Q := (am_r_if (t := 30) d110_4 (by decide)).trans (am_ite _ _ trivial (by simp only [am_cond, decide_eq_true_eq]))
theorem r110_30  : am_Rn L xs d 110 30 ls st σ Q = am_Rn L xs d 110 32 ls (.int (-2) :: st) σ Q := am_r_bipush d110_30 (by decide)
theorem r110_32 {v : Int32} : am_Rn L xs d 110 32 ls [.int v] σ Q = Q (some (.int v)) σ := am_r_ireturn d110_32 rfl
theorem d111_0 : decode (pg_code 111) 0 = .ok (.iconst 0, 1) := by decide +kernel
theorem d111_1 : decode (pg_code 111) 1 = .ok (.istore_n 2, 1) := by decide +kernel
theorem d111_2 : decode (pg_code 111) 2 = .ok (.iconst 0, 1) := by decide +kernel
theorem d111_3 : decode (pg_code 111) 3 = .ok (.istore_n 3, 1) := by decide +kernel
theorem d111_4 : decode (pg_code 111) 4 = .ok (.iload_n 3, 1) := by decide +kernel
theorem d111_5 : decode (pg_code 111) 5 = .ok (.aload_n 0, 1) := by decide +kernel
theorem d111_6 : decode (pg_code 111) 6 = .ok (.getfield 59, 3) := by decide +kernel
theorem d111_9 : decode (pg_code 111) 9 = .ok (.iconst 1, 1) := by decide +kernel
theorem d111_10 : decode (pg_code 111) 10 = .ok (.iaload, 1) := by decide +kernel
theorem d111_11 : decode (pg_code 111) 11 = .ok (.if_icmp .ge 30, 3) := by decide +kernel
theorem d111_41 : decode (pg_code 111) 41 = .ok (.iload_n 2, 1) := by decide +kernel
theorem d111_42 : decode (pg_code 111) 42 = .ok (.ireturn, 1) := by decide +kernel
theorem e111 {b1 b2 : Value} : am_Call L xs d 111 [b1, b2] σ Q = am_Rn L xs d 111 0 [b1, b2, .retAddr 0, .retAddr 0] [] σ Q := rfl
theorem r111_0  : am_Rn L xs d 111 0 ls st σ Q = am_Rn L xs d 111 1 ls (.int 0 :: st) σ Q := am_r_iconst d111_0 (by decide)
theorem r111_1 {x : Int32} : am_Rn L xs d 111 1 ls (.int x :: st) σ Q = (2 < ls.length ∧ am_Rn L xs d 111 2 (ls.set 2 (.int x)) st σ Q) := am_r_istore_n d111_1
theorem r111_2  : am_Rn L xs d 111 2 ls st σ Q = am_Rn L xs d 111 3 ls (.int 0 :: st) σ Q := am_r_iconst d111_2 (by decide)
theorem r111_3 {x : Int32} : am_Rn L xs d 111 3 ls (.int x :: st) σ Q = (3 < ls.length ∧ am_Rn L xs d 111 4 (ls.set 3 (.int x)) st σ Q) := am_r_istore_n d111_3
theorem r111_4  : am_Rn L xs d 111 4 ls st σ Q = am_li ls 3 (fun x => am_Rn L xs d 111 5 ls (.int x :: st) σ Q) := am_r_iload_n d111_4
theorem r111_5  : am_Rn L xs d 111 5 ls st σ Q = am_la ls 0 (fun x => am_Rn L xs d 111 6 ls (x :: st) σ Q) := am_r_aload_n d111_5
theorem r111_6 {p : Nat} : am_Rn L xs d 111 6 ls (.ref p :: st) σ Q = am_fd σ p 6 18 (fun v => am_Rn L xs d 111 9 ls (v :: st) σ Q) := am_r_getfield d111_6 rfl
theorem r111_9  : am_Rn L xs d 111 9 ls st σ Q = am_Rn L xs d 111 10 ls (.int 1 :: st) σ Q := am_r_iconst d111_9 (by decide)
theorem r111_10 {p : Nat} {i : Int32} : am_Rn L xs d 111 10 ls (.int i :: .ref p :: st) σ Q = am_ai 0 σ p i (fun x => am_Rn L xs d 111 11 ls (.int x :: st) σ Q) := am_r_iaload d111_10
theorem r111_11 {a b : Int32} : am_Rn L xs d 111 11 ls (.int b :: .int a :: st) σ Q = if b ≤ a then am_Rn L xs d 111 41 ls st σ Q else am_Rn L xs d 111 14 ls st σ Q := (am_r_icmp (t := 41) d111_11 (by decide)).trans (am_ite _ _ trivial (by simp only [am_cond, decide_eq_true_eq]))
theorem r111_41  : am_Rn L xs d 111 41 ls st σ Q = am_li ls 2 (fun x => am_Rn L xs d 111 42 ls (.int x :: st) σ Q) := am_r_iload_n d111_41
theorem r111_42 {v : Int32} : am_Rn L xs d 111 42 ls [.int v] σ Q = Q (some (.int v)) σ := am_r_ireturn d111_42 rfl
theorem d112_0 : decode (pg_code 112) 0 = .ok (.aload_n 0, 1) := by decide +kernel
theorem d112_1 : decode (pg_code 112) 1 = .ok (.getfield 190, 3) := by decide +kernel
theorem d112_4 : decode (pg_code 112) 4 = .ok (.ifCond .eq 17, 3) := by decide +kernel
theorem d112_21 : decode (pg_code 112) 21 = .ok (.iconst (-1), 1) := by decide +kernel
theorem d112_22 : decode (pg_code 112) 22 = .ok (.ireturn, 1) := by decide +kernel
theorem e112 {b1 b2 : Value} : am_Call L xs d 112 [b1, b2] σ Q = am_Rn L xs d 112 0 [b1, b2, .retAddr 0] [] σ Q := rfl
theorem r112_0  : am_Rn L xs d 112 0 ls st σ Q = am_la ls 0 (fun x => am_Rn L xs d 112 1 ls (x :: st) σ Q) := am_r_aload_n d112_0
theorem r112_1 {p : Nat} : am_Rn L xs d 112 1 ls (.ref p :: st) σ Q = am_fd σ p 6 26 (fun v => am_Rn L xs d 112 4 ls (v :: st) σ Q) := am_r_getfield d112_1 rfl
theorem r112_4 {a : Int32} : am_Rn L xs d 112 4 ls (.int a :: st) σ Q = if a = 0 then am_Rn L xs d 112 21 ls st σ Q else am_Rn L xs d 112 7 ls st σ Q := (am_r_if (t := 21) d112_4 (by decide)).trans (am_ite _ _ trivial (by simp only [am_cond, decide_eq_true_eq]))
theorem r112_21  : am_Rn L xs d 112 21 ls st σ Q = am_Rn L xs d 112 22 ls (.int (-1) :: st) σ Q := am_r_iconst d112_21 (by decide)
theorem r112_22 {v : Int32} : am_Rn L xs d 112 22 ls [.int v] σ Q = Q (some (.int v)) σ := am_r_ireturn d112_22 rfl
end
