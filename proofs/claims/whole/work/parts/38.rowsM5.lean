/-! Rows of the program's instructions, written by program (wip/gen/gen_rows.py) -/
section
variable {L : Nat} {xs : Nat → Int32} {d : Nat} {ls st : List Value} {σ : am_S} {Q : Option Value → am_S → Prop}
theorem d124_0 : decode (pg_code 124) 0 = .ok (.aload_n 0, 1) := by decide +kernel
theorem d124_1 : decode (pg_code 124) 1 = .ok (.iload_n 1, 1) := by decide +kernel
theorem d124_2 : decode (pg_code 124) 2 = .ok (.invokevirtual 224, 3) := by decide +kernel
theorem d124_5 : decode (pg_code 124) 5 = .ok (.ifCond .eq 30, 3) := by decide +kernel
theorem d124_8 : decode (pg_code 124) 8 = .ok (.iload_n 2, 1) := by decide +kernel
theorem d124_9 : decode (pg_code 124) 9 = .ok (.ifCond .lt 22, 3) := by decide +kernel
theorem d124_12 : decode (pg_code 124) 12 = .ok (.aload_n 0, 1) := by decide +kernel
theorem d124_13 : decode (pg_code 124) 13 = .ok (.getfield 86, 3) := by decide +kernel
theorem d124_16 : decode (pg_code 124) 16 = .ok (.iload_n 2, 1) := by decide +kernel
theorem d124_17 : decode (pg_code 124) 17 = .ok (.baload, 1) := by decide +kernel
theorem d124_18 : decode (pg_code 124) 18 = .ok (.ifCond .eq 17, 3) := by decide +kernel
theorem d124_21 : decode (pg_code 124) 21 = .ok (.aload_n 0, 1) := by decide +kernel
theorem d124_22 : decode (pg_code 124) 22 = .ok (.getfield 89, 3) := by decide +kernel
theorem d124_25 : decode (pg_code 124) 25 = .ok (.iload_n 2, 1) := by decide +kernel
theorem d124_26 : decode (pg_code 124) 26 = .ok (.iaload, 1) := by decide +kernel
theorem d124_27 : decode (pg_code 124) 27 = .ok (.iload_n 1, 1) := by decide +kernel
theorem d124_28 : decode (pg_code 124) 28 = .ok (.if_icmp .ne 7, 3) := by decide +kernel
theorem d124_31 : decode (pg_code 124) 31 = .ok (.iconst 1, 1) := by decide +kernel
theorem d124_32 : decode (pg_code 124) 32 = .ok (.goto 4, 3) := by decide +kernel
theorem d124_35 : decode (pg_code 124) 35 = .ok (.iconst 0, 1) := by decide +kernel
theorem d124_36 : decode (pg_code 124) 36 = .ok (.ireturn, 1) := by decide +kernel
theorem e124 {b1 b2 b3 : Value} : am_Call L xs d 124 [b1, b2, b3] σ Q = am_Rn L xs d 124 0 [b1, b2, b3] [] σ Q := rfl
theorem r124_0  : am_Rn L xs d 124 0 ls st σ Q = am_la ls 0 (fun x => am_Rn L xs d 124 1 ls (x :: st) σ Q) := am_r_aload_n d124_0
theorem r124_1  : am_Rn L xs d 124 1 ls st σ Q = am_li ls 1 (fun x => am_Rn L xs d 124 2 ls (.int x :: st) σ Q) := am_r_iload_n d124_1
theorem r124_2 {a1 : Value} {p : Nat} : am_Rn L xs (d + 1) 124 2 ls (a1 :: .ref p :: st) σ Q = ((am_oc σ p = 6 ∧ st.length ≤ 4 ∧ am_ok a1 = true) ∧ am_Call L xs d 125 [.ref p, a1] σ (fun r σ1 => am_Rn L xs (d + 1) 124 5 ls (r.toList ++ st) σ1 Q)) := am_R_virtual1 d124_2 rfl ⟨by decide, rfl⟩ rfl rfl (by decide)
theorem r124_5 {a : Int32} : am_Rn L xs d 124 5 ls (.int a :: st) σ Q = if a = 0 then am_Rn L xs d 124 35 ls st σ Q else am_Rn L xs d 124 8 ls st σ Q := (am_r_if (t := 35) d124_5 (by decide)).trans (am_ite _ _ trivial (by simp only [am_cond, decide_eq_true_eq]))
theorem r124_8  : am_Rn L xs d 124 8 ls st σ Q = am_li ls 2 (fun x => am_Rn L xs d 124 9 ls (.int x :: st) σ Q) := am_r_iload_n d124_8
theorem r124_9 {a : Int32} : am_Rn L xs d 124 9 ls (.int a :: st) σ Q = if a < 0 then am_Rn L xs d 124 31 ls st σ Q else am_Rn L xs d 124 12 ls st σ Q := (am_r_if (t := 31) d124_9 (by decide)).trans (am_ite _ _ trivial (by simp only [am_cond, decide_eq_true_eq]))
theorem r124_12  : am_Rn L xs d 124 12 ls st σ Q = am_la ls 0 (fun x => am_Rn L xs d 124 13 ls (x :: st) σ Q) := am_r_aload_n d124_12
theorem r124_13 {p : Nat} : am_Rn L xs d 124 13 ls (.ref p :: st) σ Q = am_fd σ p 6 30 (fun v => am_Rn L xs d 124 16 ls (v :: st) σ Q) := am_r_getfield d124_13 rfl
theorem r124_16  : am_Rn L xs d 124 16 ls st σ Q = am_li ls 2 (fun x => am_Rn L xs d 124 17 ls (.int x :: st) σ Q) := am_r_iload_n d124_16
theorem r124_17 {p : Nat} {i : Int32} : am_Rn L xs d 124 17 ls (.int i :: .ref p :: st) σ Q = am_ai 1 σ p i (fun x => am_Rn L xs d 124 18 ls (.int x :: st) σ Q) := am_r_baload d124_17
theorem r124_18 {a : Int32} : am_Rn L xs d 124 18 ls (.int a :: st) σ Q = if a = 0 then am_Rn L xs d 124 35 ls st σ Q else am_Rn L xs d 124 21 ls st σ Q := (am_r_if (t := 35) d124_18 (by decide)).trans (am_ite _ _ trivial (by simp only [am_cond, decide_eq_true_eq]))
theorem r124_21  : am_Rn L xs d 124 21 ls st σ Q = am_la ls 0 (fun x => am_Rn L xs d 124 22 ls (x :: st) σ Q) := am_r_aload_n d124_21
theorem r124_22 {p : Nat} : am_Rn L xs d 124 22 ls (.ref p :: st) σ Q = am_fd σ p 6 31 (fun v => am_Rn L xs d 124 25 ls (v :: st) σ Q) := am_r_getfield d124_22 rfl
theorem r124_25  : am_Rn L xs d 124 25 ls st σ Q = am_li ls 2 (fun x => am_Rn L xs d 124 26 ls (.int x :: st) σ Q) := am_r_iload_n d124_25
theorem r124_26 {p : Nat} {i : Int32} : am_Rn L xs d 124 26 ls (.int i :: .ref p :: st) σ Q = am_ai 0 σ p i (fun x => am_Rn L xs d 124 27 ls (.int x :: st) σ Q) := am_r_iaload d124_26
theorem r124_27  : am_Rn L xs d 124 27 ls st σ Q = am_li ls 1 (fun x => am_Rn L xs d 124 28 ls (.int x :: st) σ Q) := am_r_iload_n d124_27
theorem r124_28 {a b : Int32} : am_Rn L xs d 124 28 ls (.int b :: .int a :: st) σ Q = if ¬ a = b then am_Rn L xs d 124 35 ls st σ Q else am_Rn L xs d 124 31 ls st σ Q := (am_r_icmp (t := 35) d124_28 (by decide)).trans (am_ite _ _ trivial (by simp only [am_cond, decide_eq_true_eq]))
theorem r124_31  : am_Rn L xs d 124 31 ls st σ Q = am_Rn L xs d 124 32 ls (.int 1 :: st) σ Q := am_r_iconst d124_31 (by decide)
theorem r124_32  : am_Rn L xs d 124 32 ls st σ Q = am_Rn L xs d 124 36 ls st σ Q := am_r_goto d124_32 (by decide)
theorem r124_35  : am_Rn L xs d 124 35 ls st σ Q = am_Rn L xs d 124 36 ls (.int 0 :: st) σ Q := am_r_iconst d124_35 (by decide)
theorem r124_36 {v : Int32} (hv : v = 0 ∨ v = 1) : am_Rn L xs d 124 36 ls [.int v] σ Q = Q (some (.int v)) σ := am_r_zreturn d124_36 rfl hv
theorem d125_0 : decode (pg_code 125) 0 = .ok (.iload_n 1, 1) := by decide +kernel
theorem d125_1 : decode (pg_code 125) 1 = .ok (.ifCond .lt 12, 3) := by decide +kernel
theorem d125_4 : decode (pg_code 125) 4 = .ok (.aload_n 0, 1) := by decide +kernel
theorem d125_5 : decode (pg_code 125) 5 = .ok (.getfield 86, 3) := by decide +kernel
theorem d125_8 : decode (pg_code 125) 8 = .ok (.iload_n 1, 1) := by decide +kernel
theorem d125_9 : decode (pg_code 125) 9 = .ok (.baload, 1) := by decide +kernel
theorem d125_10 : decode (pg_code 125) 10 = .ok (.ifCond .eq 7, 3) := by decide +kernel
theorem d125_13 : decode (pg_code 125) 13 = .ok (.iconst 1, 1) := by decide +kernel
theorem d125_14 : decode (pg_code 125) 14 = .ok (.goto 4, 3) := by decide +kernel
theorem d125_17 : decode (pg_code 125) 17 = .ok (.iconst 0, 1) := by decide +kernel
theorem d125_18 : decode (pg_code 125) 18 = .ok (.ireturn, 1) := by decide +kernel
theorem e125 {b1 b2 : Value} : am_Call L xs d 125 [b1, b2] σ Q = am_Rn L xs d 125 0 [b1, b2] [] σ Q := rfl
theorem r125_0  : am_Rn L xs d 125 0 ls st σ Q = am_li ls 1 (fun x => am_Rn L xs d 125 1 ls (.int x :: st) σ Q) := am_r_iload_n d125_0
theorem r125_1 {a : Int32} : am_Rn L xs d 125 1 ls (.int a :: st) σ Q = if a < 0 then am_Rn L xs d 125 13 ls st σ Q else am_Rn L xs d 125 4 ls st σ Q := (am_r_if (t := 13) d125_1 (by decide)).trans (am_ite _ _ trivial (by simp only [am_cond, decide_eq_true_eq]))
theorem r125_4  : am_Rn L xs d 125 4 ls st σ Q = am_la ls 0 (fun x => am_Rn L xs d 125 5 ls (x :: st) σ Q) := am_r_aload_n d125_4
theorem r125_5 {p : Nat} : am_Rn L xs d 125 5 ls (.ref p :: st) σ Q = am_fd σ p 6 30 (fun v => am_Rn L xs d 125 8 ls (v :: st) σ Q) := am_r_getfield d125_5 rfl
theorem r125_8  : am_Rn L xs d 125 8 ls st σ Q = am_li ls 1 (fun x => am_Rn L xs d 125 9 ls (.int x :: st) σ Q) := am_r_iload_n d125_8
theorem r125_9 {p : Nat} {i : Int32} : am_Rn L xs d 125 9 ls (.int i :: .ref p :: st) σ Q = am_ai 1 σ p i (fun x => am_Rn L xs d 125 10 ls (.int x :: st) σ Q) := am_r_baload d125_9
theorem r125_10 {a : Int32} : am_Rn L xs d 125 10 ls (.int a :: st) σ Q = if a = 0 then am_Rn L xs d 125 17 ls st σ Q else am_Rn L xs d 125 13 ls st σ Q := (am_r_if (t := 17) d125_10 (by decide)).trans (am_ite _ _ trivial (by simp only [am_cond, decide_eq_true_eq]))
theorem r125_13  : am_Rn L xs d 125 13 ls st σ Q = am_Rn L xs d 125 14 ls (.int 1 :: st) σ Q := am_r_iconst d125_13 (by decide)
theorem r125_14  : am_Rn L xs d 125 14 ls st σ Q = am_Rn L xs d 125 18 ls st σ Q := am_r_goto d125_14 (by decide)
theorem r125_17  : am_Rn L xs d 125 17 ls st σ Q = am_Rn L xs d 125 18 ls (.int 0 :: st) σ Q := am_r_iconst d125_17 (by decide)
theorem r125_18 {v : Int32} (hv : v = 0 ∨ v = 1) : am_Rn L xs d 125 18 ls [.int v] σ Q = Q (some (.int v)) σ := am_r_zreturn d125_18 rfl hv
theorem d126_0 : decode (pg_code 126) 0 = .ok (.bipush 80, 2) := by decide +kernel
theorem d126_2 : decode (pg_code 126) 2 = .ok (.istore_n 3, 1) := by decide +kernel
theorem d126_3 : decode (pg_code 126) 3 = .ok (.iload_n 3, 1) := by decide +kernel
theorem d126_4 : decode (pg_code 126) 4 = .ok (.bipush 80, 2) := by decide +kernel
theorem d126_6 : decode (pg_code 126) 6 = .ok (.aload_n 0, 1) := by decide +kernel
theorem d126_7 : decode (pg_code 126) 7 = .ok (.getfield 59, 3) := by decide +kernel
theorem d126_10 : decode (pg_code 126) 10 = .ok (.iconst 2, 1) := by decide +kernel
theorem d126_11 : decode (pg_code 126) 11 = .ok (.iaload, 1) := by decide +kernel
theorem d126_12 : decode (pg_code 126) 12 = .ok (.iadd, 1) := by decide +kernel
theorem d126_13 : decode (pg_code 126) 13 = .ok (.if_icmp .ge 31, 3) := by decide +kernel
theorem d126_16 : decode (pg_code 126) 16 = .ok (.aload_n 0, 1) := by decide +kernel
theorem d126_17 : decode (pg_code 126) 17 = .ok (.getfield 62, 3) := by decide +kernel
theorem d126_20 : decode (pg_code 126) 20 = .ok (.iload_n 3, 1) := by decide +kernel
theorem d126_21 : decode (pg_code 126) 21 = .ok (.iaload, 1) := by decide +kernel
theorem d126_22 : decode (pg_code 126) 22 = .ok (.iload_n 1, 1) := by decide +kernel
theorem d126_23 : decode (pg_code 126) 23 = .ok (.if_icmp .ne 15, 3) := by decide +kernel
theorem d126_26 : decode (pg_code 126) 26 = .ok (.aload_n 0, 1) := by decide +kernel
theorem d126_27 : decode (pg_code 126) 27 = .ok (.getfield 65, 3) := by decide +kernel
theorem d126_30 : decode (pg_code 126) 30 = .ok (.iload_n 3, 1) := by decide +kernel
theorem d126_31 : decode (pg_code 126) 31 = .ok (.iaload, 1) := by decide +kernel
theorem d126_32 : decode (pg_code 126) 32 = .ok (.iload_n 2, 1) := by decide +kernel
theorem d126_33 : decode (pg_code 126) 33 = .ok (.if_icmp .ne 5, 3) := by decide +kernel
theorem d126_36 : decode (pg_code 126) 36 = .ok (.iload_n 3, 1) := by decide +kernel
theorem d126_37 : decode (pg_code 126) 37 = .ok (.ireturn, 1) := by decide +kernel
theorem d126_38 : decode (pg_code 126) 38 = .ok (.iinc 3 1, 3) := by decide +kernel
theorem d126_41 : decode (pg_code 126) 41 = .ok (.goto (-38), 3) := by decide +kernel
theorem d126_44 : decode (pg_code 126) 44 = .ok (.iconst (-1), 1) := by decide +kernel
theorem d126_45 : decode (pg_code 126) 45 = .ok (.ireturn, 1) := by decide +kernel
theorem e126 {b1 b2 b3 : Value} : am_Call L xs d 126 [b1, b2, b3] σ Q = am_Rn L xs d 126 0 [b1, b2, b3, .retAddr 0] [] σ Q := rfl
theorem r126_0  : am_Rn L xs d 126 0 ls st σ Q = am_Rn L xs d 126 2 ls (.int 80 :: st) σ Q := am_r_bipush d126_0 (by decide)
theorem r126_2 {x : Int32} : am_Rn L xs d 126 2 ls (.int x :: st) σ Q = (3 < ls.length ∧ am_Rn L xs d 126 3 (ls.set 3 (.int x)) st σ Q) := am_r_istore_n d126_2
theorem r126_3  : am_Rn L xs d 126 3 ls st σ Q = am_li ls 3 (fun x => am_Rn L xs d 126 4 ls (.int x :: st) σ Q) := am_r_iload_n d126_3
theorem r126_4  : am_Rn L xs d 126 4 ls st σ Q = am_Rn L xs d 126 6 ls (.int 80 :: st) σ Q := am_r_bipush d126_4 (by decide)
theorem r126_6  : am_Rn L xs d 126 6 ls st σ Q = am_la ls 0 (fun x => am_Rn L xs d 126 7 ls (x :: st) σ Q) := am_r_aload_n d126_6
theorem r126_7 {p : Nat} : am_Rn L xs d 126 7 ls (.ref p :: st) σ Q = am_fd σ p 6 18 (fun v => am_Rn L xs d 126 10 ls (v :: st) σ Q) := am_r_getfield d126_7 rfl
theorem r126_10  : am_Rn L xs d 126 10 ls st σ Q = am_Rn L xs d 126 11 ls (.int 2 :: st) σ Q := am_r_iconst d126_10 (by decide)
theorem r126_11 {p : Nat} {i : Int32} : am_Rn L xs d 126 11 ls (.int i :: .ref p :: st) σ Q = am_ai 0 σ p i (fun x => am_Rn L xs d 126 12 ls (.int x :: st) σ Q) := am_r_iaload d126_11
theorem r126_12 {a b : Int32} : am_Rn L xs d 126 12 ls (.int b :: .int a :: st) σ Q = am_Rn L xs d 126 13 ls (.int (a + b) :: st) σ Q := am_r_iadd d126_12
theorem r126_13 {a b : Int32} : am_Rn L xs d 126 13 ls (.int b :: .int a :: st) σ Q = if b ≤ a then am_Rn L xs d 126 44 ls st σ Q else am_Rn L xs d 126 16 ls st σ Q := (am_r_icmp (t := 44) d126_13 (by decide)).trans (am_ite _ _ trivial (by simp only [am_cond, decide_eq_true_eq]))
theorem r126_16  : am_Rn L xs d 126 16 ls st σ Q = am_la ls 0 (fun x => am_Rn L xs d 126 17 ls (x :: st) σ Q) := am_r_aload_n d126_16
theorem r126_17 {p : Nat} : am_Rn L xs d 126 17 ls (.ref p :: st) σ Q = am_fd σ p 6 19 (fun v => am_Rn L xs d 126 20 ls (v :: st) σ Q) := am_r_getfield d126_17 rfl
theorem r126_20  : am_Rn L xs d 126 20 ls st σ Q = am_li ls 3 (fun x => am_Rn L xs d 126 21 ls (.int x :: st) σ Q) := am_r_iload_n d126_20
theorem r126_21 {p : Nat} {i : Int32} : am_Rn L xs d 126 21 ls (.int i :: .ref p :: st) σ Q = am_ai 0 σ p i (fun x => am_Rn L xs d 126 22 ls (.int x :: st) σ Q) := am_r_iaload d126_21
theorem r126_22  : am_Rn L xs d 126 22 ls st σ Q = am_li ls 1 (fun x => am_Rn L xs d 126 23 ls (.int x :: st) σ Q) := am_r_iload_n d126_22
theorem r126_23 {a b : Int32} : am_Rn L xs d 126 23 ls (.int b :: .int a :: st) σ Q = if ¬ a = b then am_Rn L xs d 126 38 ls st σ Q else am_Rn L xs d 126 26 ls st σ Q := (am_r_icmp (t := 38) d126_23 (by decide)).trans (am_ite _ _ trivial (by simp only [am_cond, decide_eq_true_eq]))
theorem r126_26  : am_Rn L xs d 126 26 ls st σ Q = am_la ls 0 (fun x => am_Rn L xs d 126 27 ls (x :: st) σ Q) := am_r_aload_n d126_26
theorem r126_27 {p : Nat} : am_Rn L xs d 126 27 ls (.ref p :: st) σ Q = am_fd σ p 6 20 (fun v => am_Rn L xs d 126 30 ls (v :: st) σ Q) := am_r_getfield d126_27 rfl
theorem r126_30  : am_Rn L xs d 126 30 ls st σ Q = am_li ls 3 (fun x => am_Rn L xs d 126 31 ls (.int x :: st) σ Q) := am_r_iload_n d126_30
theorem r126_31 {p : Nat} {i : Int32} : am_Rn L xs d 126 31 ls (.int i :: .ref p :: st) σ Q = am_ai 0 σ p i (fun x => am_Rn L xs d 126 32 ls (.int x :: st) σ Q) := am_r_iaload d126_31
theorem r126_32  : am_Rn L xs d 126 32 ls st σ Q = am_li ls 2 (fun x => am_Rn L xs d 126 33 ls (.int x :: st) σ Q) := am_r_iload_n d126_32
theorem r126_33 {a b : Int32} : am_Rn L xs d 126 33 ls (.int b :: .int a :: st) σ Q = if ¬ a = b then am_Rn L xs d 126 38 ls st σ Q else am_Rn L xs d 126 36 ls st σ Q := (am_r_icmp (t := 38) d126_33 (by decide)).trans (am_ite _ _ trivial (by simp only [am_cond, decide_eq_true_eq]))
theorem r126_36  : am_Rn L xs d 126 36 ls st σ Q = am_li ls 3 (fun x => am_Rn L xs d 126 37 ls (.int x :: st) σ Q) := am_r_iload_n d126_36
theorem r126_37 {v : Int32} : am_Rn L xs d 126 37 ls [.int v] σ Q = Q (some (.int v)) σ := am_r_ireturn d126_37 rfl
theorem r126_38  : am_Rn L xs d 126 38 ls st σ Q = am_li ls 3 (fun x => am_Rn L xs d 126 41 (ls.set 3 (.int (x + 1))) st σ Q) := am_r_iinc d126_38 (by decide)
theorem r126_41  : am_Rn L xs d 126 41 ls st σ Q = am_Rn L xs d 126 3 ls st σ Q := am_r_goto d126_41 (by decide)
theorem r126_44  : am_Rn L xs d 126 44 ls st σ Q = am_Rn L xs d 126 45 ls (.int (-1) :: st) σ Q := am_r_iconst d126_44 (by decide)
theorem r126_45 {v : Int32} : am_Rn L xs d 126 45 ls [.int v] σ Q = Q (some (.int v)) σ := am_r_ireturn d126_45 rfl
theorem d127_0 : decode (pg_code 127) 0 = .ok (.iconst 0, 1) := by decide +kernel
theorem d127_1 : decode (pg_code 127) 1 = .ok (.istore_n 2, 1) := by decide +kernel
theorem d127_2 : decode (pg_code 127) 2 = .ok (.iconst 0, 1) := by decide +kernel
theorem d127_3 : decode (pg_code 127) 3 = .ok (.istore_n 3, 1) := by decide +kernel
theorem d127_4 : decode (pg_code 127) 4 = .ok (.iload_n 3, 1) := by decide +kernel
theorem d127_5 : decode (pg_code 127) 5 = .ok (.aload_n 0, 1) := by decide +kernel
theorem d127_6 : decode (pg_code 127) 6 = .ok (.getfield 194, 3) := by decide +kernel
theorem d127_9 : decode (pg_code 127) 9 = .ok (.if_icmp .ge 38, 3) := by decide +kernel
theorem d127_12 : decode (pg_code 127) 12 = .ok (.iload_n 2, 1) := by decide +kernel
theorem d127_13 : decode (pg_code 127) 13 = .ok (.ifCond .ne 22, 3) := by decide +kernel
theorem d127_16 : decode (pg_code 127) 16 = .ok (.aload_n 0, 1) := by decide +kernel
theorem d127_17 : decode (pg_code 127) 17 = .ok (.getfield 86, 3) := by decide +kernel
theorem d127_20 : decode (pg_code 127) 20 = .ok (.iload_n 3, 1) := by decide +kernel
theorem d127_21 : decode (pg_code 127) 21 = .ok (.baload, 1) := by decide +kernel
theorem d127_22 : decode (pg_code 127) 22 = .ok (.ifCond .eq 17, 3) := by decide +kernel
theorem d127_25 : decode (pg_code 127) 25 = .ok (.aload_n 0, 1) := by decide +kernel
theorem d127_26 : decode (pg_code 127) 26 = .ok (.getfield 89, 3) := by decide +kernel
theorem d127_29 : decode (pg_code 127) 29 = .ok (.iload_n 3, 1) := by decide +kernel
theorem d127_30 : decode (pg_code 127) 30 = .ok (.iaload, 1) := by decide +kernel
theorem d127_31 : decode (pg_code 127) 31 = .ok (.iload_n 1, 1) := by decide +kernel
theorem d127_32 : decode (pg_code 127) 32 = .ok (.if_icmp .ne 7, 3) := by decide +kernel
theorem d127_35 : decode (pg_code 127) 35 = .ok (.iconst 1, 1) := by decide +kernel
theorem d127_36 : decode (pg_code 127) 36 = .ok (.goto 4, 3) := by decide +kernel
theorem d127_39 : decode (pg_code 127) 39 = .ok (.iconst 0, 1) := by decide +kernel
theorem d127_40 : decode (pg_code 127) 40 = .ok (.istore_n 2, 1) := by decide +kernel
theorem d127_41 : decode (pg_code 127) 41 = .ok (.iinc 3 1, 3) := by decide +kernel
theorem d127_44 : decode (pg_code 127) 44 = .ok (.goto (-40), 3) := by decide +kernel
theorem d127_47 : decode (pg_code 127) 47 = .ok (.iload_n 2, 1) := by decide +kernel
theorem d127_48 : decode (pg_code 127) 48 = .ok (.ireturn, 1) := by decide +kernel
theorem e127 {b1 b2 : Value} : am_Call L xs d 127 [b1, b2] σ Q = am_Rn L xs d 127 0 [b1, b2, .retAddr 0, .retAddr 0] [] σ Q := rfl
theorem r127_0  : am_Rn L xs d 127 0 ls st σ Q = am_Rn L xs d 127 1 ls (.int 0 :: st) σ Q := am_r_iconst d127_0 (by decide)
theorem r127_1 {x : Int32} : am_Rn L xs d 127 1 ls (.int x :: st) σ Q = (2 < ls.length ∧ am_Rn L xs d 127 2 (ls.set 2 (.int x)) st σ Q) := am_r_istore_n d127_1
theorem r127_2  : am_Rn L xs d 127 2 ls st σ Q = am_Rn L xs d 127 3 ls (.int 0 :: st) σ Q := am_r_iconst d127_2 (by decide)
theorem r127_3 {x : Int32} : am_Rn L xs d 127 3 ls (.int x :: st) σ Q = (3 < ls.length ∧ am_Rn L xs d 127 4 (ls.set 3 (.int x)) st σ Q) := am_r_istore_n d127_3
theorem r127_4  : am_Rn L xs d 127 4 ls st σ Q = am_li ls 3 (fun x => am_Rn L xs d 127 5 ls (.int x :: st) σ Q) := am_r_iload_n d127_4
theorem r127_5  : am_Rn L xs d 127 5 ls st σ Q = am_la ls 0 (fun x => am_Rn L xs d 127 6 ls (x :: st) σ Q) := am_r_aload_n d127_5
theorem r127_6 {p : Nat} : am_Rn L xs d 127 6 ls (.ref p :: st) σ Q = am_fd σ p 6 29 (fun v => am_Rn L xs d 127 9 ls (v :: st) σ Q) := am_r_getfield d127_6 rfl
theorem r127_9 {a b : Int32} : am_Rn L xs d 127 9 ls (.int b :: .int a :: st) σ Q = if b ≤ a then am_Rn L xs d 127 47 ls st σ Q else am_Rn L xs d 127 12 ls st σ Q := (am_r_icmp (t := 47) d127_9 (by decide)).trans (am_ite _ _ trivial (by simp only [am_cond, decide_eq_true_eq]))
theorem r127_12  : am_Rn L xs d 127 12 ls st σ Q = am_li ls 2 (fun x => am_Rn L xs d 127 13 ls (.int x :: st) σ Q) := am_r_iload_n d127_12
theorem r127_13 {a : Int32} : am_Rn L xs d 127 13 ls (.int a :: st) σ Q = if ¬ a = 0 then am_Rn L xs d 127 35 ls st σ Q else am_Rn L xs d 127 16 ls st σ Q := (am_r_if (t := 35) d127_13 (by decide)).trans (am_ite _ _ trivial (by simp only [am_cond, decide_eq_true_eq]))
theorem r127_16  : am_Rn L xs d 127 16 ls st σ Q = am_la ls 0 (fun x => am_Rn L xs d 127 17 ls (x :: st) σ Q) := am_r_aload_n d127_16
theorem r127_17 {p : Nat} : am_Rn L xs d 127 17 ls (.ref p :: st) σ Q = am_fd σ p 6 30 (fun v => am_Rn L xs d 127 20 ls (v :: st) σ Q) := am_r_getfield d127_17 rfl
theorem r127_20  : am_Rn L xs d 127 20 ls st σ Q = am_li ls 3 (fun x => am_Rn L xs d 127 21 ls (.int x :: st) σ Q) := am_r_iload_n d127_20
theorem r127_21 {p : Nat} {i : Int32} : am_Rn L xs d 127 21 ls (.int i :: .ref p :: st) σ Q = am_ai 1 σ p i (fun x => am_Rn L xs d 127 22 ls (.int x :: st) σ Q) := am_r_baload d127_21
theorem r127_22 {a : Int32} : am_Rn L xs d 127 22 ls (.int a :: st) σ Q = if a = 0 then am_Rn L xs d 127 39 ls st σ Q else am_Rn L xs d 127 25 ls st σ Q := (am_r_if (t := 39) d127_22 (by decide)).trans (am_ite _ _ trivial (by simp only [am_cond, decide_eq_true_eq]))
theorem r127_25  : am_Rn L xs d 127 25 ls st σ Q = am_la ls 0 (fun x => am_Rn L xs d 127 26 ls (x :: st) σ Q) := am_r_aload_n d127_25
theorem r127_26 {p : Nat} : am_Rn L xs d 127 26 ls (.ref p :: st) σ Q = am_fd σ p 6 31 (fun v => am_Rn L xs d 127 29 ls (v :: st) σ Q) := am_r_getfield d127_26 rfl
theorem r127_29  : am_Rn L xs d 127 29 ls st σ Q = am_li ls 3 (fun x => am_Rn L xs d 127 30 ls (.int x :: st) σ Q) := am_r_iload_n d127_29
theorem r127_30 {p : Nat} {i : Int32} : am_Rn L xs d 127 30 ls (.int i :: .ref p :: st) σ Q = am_ai 0 σ p i (fun x => am_Rn L xs d 127 31 ls (.int x :: st) σ Q) := am_r_iaload d127_30
theorem r127_31  : am_Rn L xs d 127 31 ls st σ Q = am_li ls 1 (fun x => am_Rn L xs d 127 32 ls (.int x :: st) σ Q) := am_r_iload_n d127_31
theorem r127_32 {a b : Int32} : am_Rn L xs d 127 32 ls (.int b :: .int a :: st) σ Q = if ¬ a = b then am_Rn L xs d 127 39 ls st σ Q else am_Rn L xs d 127 35 ls st σ Q := (am_r_icmp (t := 39) d127_32 (by decide)).trans (am_ite _ _ trivial (by simp only [am_cond, decide_eq_true_eq]))
theorem r127_35  : am_Rn L xs d 127 35 ls st σ Q = am_Rn L xs d 127 36 ls (.int 1 :: st) σ Q := am_r_iconst d127_35 (by decide)
theorem r127_36  : am_Rn L xs d 127 36 ls st σ Q = am_Rn L xs d 127 40 ls st σ Q := am_r_goto d127_36 (by decide)
theorem r127_39  : am_Rn L xs d 127 39 ls st σ Q = am_Rn L xs d 127 40 ls (.int 0 :: st) σ Q := am_r_iconst d127_39 (by decide)
theorem r127_40 {x : Int32} : am_Rn L xs d 127 40 ls (.int x :: st) σ Q = (2 < ls.length ∧ am_Rn L xs d 127 41 (ls.set 2 (.int x)) st σ Q) := am_r_istore_n d127_40
theorem r127_41  : am_Rn L xs d 127 41 ls st σ Q = am_li ls 3 (fun x => am_Rn L xs d 127 44 (ls.set 3 (.int (x + 1))) st σ Q) := am_r_iinc d127_41 (by decide)
theorem r127_44  : am_Rn L xs d 127 44 ls st σ Q = am_Rn L xs d 127 4 ls st σ Q := am_r_goto d127_44 (by decide)
theorem r127_47  : am_Rn L xs d 127 47 ls st σ Q = am_li ls 2 (fun x => am_Rn L xs d 127 48 ls (.int x :: st) σ Q) := am_r_iload_n d127_47
theorem r127_48 {v : Int32} (hv : v = 0 ∨ v = 1) : am_Rn L xs d 127 48 ls [.int v] σ Q = Q (some (.int v)) σ := am_r_zreturn d127_48 rfl hv
theorem d128_0 : decode (pg_code 128) 0 = .ok (.iload_n 1, 1) := by decide +kernel
theorem d128_1 : decode (pg_code 128) 1 = .ok (.istore_n 3, 1) := by decide +kernel
theorem d128_2 : decode (pg_code 128) 2 = .ok (.iconst 0, 1) := by decide +kernel
theorem d128_3 : decode (pg_code 128) 3 = .ok (.istore 4, 2) := by decide +kernel
theorem d128_5 : decode (pg_code 128) 5 = .ok (.iload 4, 2) := by decide +kernel
theorem d128_7 : decode (pg_code 128) 7 = .ok (.bipush 37, 2) := by decide +kernel
theorem d128_9 : decode (pg_code 128) 9 = .ok (.if_icmp .ge 27, 3) := by decide +kernel
theorem d128_12 : decode (pg_code 128) 12 = .ok (.iload_n 3, 1) := by decide +kernel
theorem d128_13 : decode (pg_code 128) 13 = .ok (.ifCond .lt 23, 3) := by decide +kernel
theorem d128_16 : decode (pg_code 128) 16 = .ok (.iload_n 3, 1) := by decide +kernel
theorem d128_17 : decode (pg_code 128) 17 = .ok (.iload_n 2, 1) := by decide +kernel
theorem d128_18 : decode (pg_code 128) 18 = .ok (.if_icmp .ne 5, 3) := by decide +kernel
theorem d128_21 : decode (pg_code 128) 21 = .ok (.iconst 1, 1) := by decide +kernel
theorem d128_22 : decode (pg_code 128) 22 = .ok (.ireturn, 1) := by decide +kernel
theorem d128_23 : decode (pg_code 128) 23 = .ok (.aload_n 0, 1) := by decide +kernel
theorem d128_24 : decode (pg_code 128) 24 = .ok (.getfield 89, 3) := by decide +kernel
theorem d128_27 : decode (pg_code 128) 27 = .ok (.iload_n 3, 1) := by decide +kernel
theorem d128_28 : decode (pg_code 128) 28 = .ok (.iaload, 1) := by decide +kernel
theorem d128_29 : decode (pg_code 128) 29 = .ok (.istore_n 3, 1) := by decide +kernel
theorem d128_30 : decode (pg_code 128) 30 = .ok (.iinc 4 1, 3) := by decide +kernel
theorem d128_33 : decode (pg_code 128) 33 = .ok (.goto (-28), 3) := by decide +kernel
theorem d128_36 : decode (pg_code 128) 36 = .ok (.iconst 0, 1) := by decide +kernel
theorem d128_37 : decode (pg_code 128) 37 = .ok (.ireturn, 1) := by decide +kernel
theorem e128 {b1 b2 b3 : Value} : am_Call L xs d 128 [b1, b2, b3] σ Q = am_Rn L xs d 128 0 [b1, b2, b3, .retAddr 0, .retAddr 0] [] σ Q := rfl
theorem r128_0  : am_Rn L xs d 128 0 ls st σ Q = am_li ls 1 (fun x => am_Rn L xs d 128 1 ls (.int x :: st) σ Q) := am_r_iload_n d128_0
theorem r128_1 {x : Int32} : am_Rn L xs d 128 1 ls (.int x :: st) σ Q = (3 < ls.length ∧ am_Rn L xs d 128 2 (ls.set 3 (.int x)) st σ Q) := am_r_istore_n d128_1
theorem r128_2  : am_Rn L xs d 128 2 ls st σ Q = am_Rn L xs d 128 3 ls (.int 0 :: st) σ Q := am_r_iconst d128_2 (by decide)
theorem r128_3 {x : Int32} : am_Rn L xs d 128 3 ls (.int x :: st) σ Q = (4 < ls.length ∧ am_Rn L xs d 128 5 (ls.set 4 (.int x)) st σ Q) := am_r_istore d128_3
theorem r128_5  : am_Rn L xs d 128 5 ls st σ Q = am_li ls 4 (fun x => am_Rn L xs d 128 7 ls (.int x :: st) σ Q) := am_r_iload d128_5
theorem r128_7  : am_Rn L xs d 128 7 ls st σ Q = am_Rn L xs d 128 9 ls (.int 37 :: st) σ Q := am_r_bipush d128_7 (by decide)
theorem r128_9 {a b : Int32} : am_Rn L xs d 128 9 ls (.int b :: .int a :: st) σ Q = if b ≤ a then am_Rn L xs d 128 36 ls st σ Q else am_Rn L xs d 128 12 ls st σ Q := (am_r_icmp (t := 36) d128_9 (by decide)).trans (am_ite _ _ trivial (by simp only [am_cond, decide_eq_true_eq]))
theorem r128_12  : am_Rn L xs d 128 12 ls st σ Q = am_li ls 3 (fun x => am_Rn L xs d 128 13 ls (.int x :: st) σ Q) := am_r_iload_n d128_12
theorem r128_13 {a : Int32} : am_Rn L xs d 128 13 ls (.int a :: st) σ Q = if a < 0 then am_Rn L xs d 128 36 ls st σ Q else am_Rn L xs d 128 16 ls st σ Q := (am_r_if (t := 36) d128_13 (by decide)).trans (am_ite _ _ trivial (by simp only [am_cond, decide_eq_true_eq]))
theorem r128_16  : am_Rn L xs d 128 16 ls st σ Q = am_li ls 3 (fun x => am_Rn L xs d 128 17 ls (.int x :: st) σ Q) := am_r_iload_n d128_16
theorem r128_17  : am_Rn L xs d 128 17 ls st σ Q = am_li ls 2 (fun x => am_Rn L xs d 128 18 ls (.int x :: st) σ Q) := am_r_iload_n d128_17
theorem r128_18 {a b : Int32} : am_Rn L xs d 128 18 ls (.int b :: .int a :: st) σ Q = if ¬ a = b then am_Rn L xs d 128 23 ls st σ Q else am_Rn L xs d 128 21 ls st σ Q := (am_r_icmp (t := 23) d128_18 (by decide)).trans (am_ite _ _ trivial (by simp only [am_cond, decide_eq_true_eq]))
theorem r128_21  : am_Rn L xs d 128 21 ls st σ Q = am_Rn L xs d 128 22 ls (.int 1 :: st) σ Q := am_r_iconst d128_21 (by decide)
theorem r128_22 {v : Int32} (hv : v = 0 ∨ v = 1) : am_Rn L xs d 128 22 ls [.int v] σ Q = Q (some (.int v)) σ := am_r_zreturn d128_22 rfl hv
theorem r128_23  : am_Rn L xs d 128 23 ls st σ Q = am_la ls 0 (fun x => am_Rn L xs d 128 24 ls (x :: st) σ Q) := am_r_aload_n d128_23
theorem r128_24 {p : Nat} : am_Rn L xs d 128 24 ls (.ref p :: st) σ Q = am_fd σ p 6 31 (fun v => am_Rn L xs d 128 27 ls (v :: st) σ Q) := am_r_getfield d128_24 rfl
theorem r128_27  : am_Rn L xs d 128 27 ls st σ Q = am_li ls 3 (fun x => am_Rn L xs d 128 28 ls (.int x :: st) σ Q) := am_r_iload_n d128_27
theorem r128_28 {p : Nat} {i : Int32} : am_Rn L xs d 128 28 ls (.int i :: .ref p :: st) σ Q = am_ai 0 σ p i (fun x => am_Rn L xs d 128 29 ls (.int x :: st) σ Q) := am_r_iaload d128_28
theorem r128_29 {x : Int32} : am_Rn L xs d 128 29 ls (.int x :: st) σ Q = (3 < ls.length ∧ am_Rn L xs d 128 30 (ls.set 3 (.int x)) st σ Q) := am_r_istore_n d128_29
theorem r128_30  : am_Rn L xs d 128 30 ls st σ Q = am_li ls 4 (fun x => am_Rn L xs d 128 33 (ls.set 4 (.int (x + 1))) st σ Q) := am_r_iinc d128_30 (by decide)
theorem r128_33  : am_Rn L xs d 128 33 ls st σ Q = am_Rn L xs d 128 5 ls st σ Q := am_r_goto d128_33 (by decide)
theorem r128_36  : am_Rn L xs d 128 36 ls st σ Q = am_Rn L xs d 128 37 ls (.int 0 :: st) σ Q := am_r_iconst d128_36 (by decide)
theorem r128_37 {v : Int32} (hv : v = 0 ∨ v = 1) : am_Rn L xs d 128 37 ls [.int v] σ Q = Q (some (.int v)) σ := am_r_zreturn d128_37 rfl hv
theorem d129_0 : decode (pg_code 129) 0 = .ok (.aload_n 0, 1) := by decide +kernel
theorem d129_1 : decode (pg_code 129) 1 = .ok (.getfield 218, 3) := by decide +kernel
theorem d129_4 : decode (pg_code 129) 4 = .ok (.ifCond .eq 33, 3) := by decide +kernel
theorem d129_7 : decode (pg_code 129) 7 = .ok (.iload_n 1, 1) := by decide +kernel
theorem d129_8 : decode (pg_code 129) 8 = .ok (.ifCond .lt 29, 3) := by decide +kernel
theorem d129_11 : decode (pg_code 129) 11 = .ok (.iload_n 1, 1) := by decide +kernel
theorem d129_12 : decode (pg_code 129) 12 = .ok (.aload_n 0, 1) := by decide +kernel
theorem d129_13 : decode (pg_code 129) 13 = .ok (.getfield 194, 3) := by decide +kernel
theorem d129_16 : decode (pg_code 129) 16 = .ok (.if_icmp .ge 21, 3) := by decide +kernel
theorem d129_19 : decode (pg_code 129) 19 = .ok (.aload_n 0, 1) := by decide +kernel
theorem d129_20 : decode (pg_code 129) 20 = .ok (.getfield 86, 3) := by decide +kernel
theorem d129_23 : decode (pg_code 129) 23 = .ok (.iload_n 1, 1) := by decide +kernel
theorem d129_24 : decode (pg_code 129) 24 = .ok (.baload, 1) := by decide +kernel
theorem d129_25 : decode (pg_code 129) 25 = .ok (.ifCond .eq 12, 3) := by decide +kernel
theorem d129_28 : decode (pg_code 129) 28 = .ok (.iload_n 2, 1) := by decide +kernel
theorem d129_29 : decode (pg_code 129) 29 = .ok (.ifCond .lt 8, 3) := by decide +kernel
theorem d129_32 : decode (pg_code 129) 32 = .ok (.iload_n 2, 1) := by decide +kernel
theorem d129_33 : decode (pg_code 129) 33 = .ok (.iconst 3, 1) := by decide +kernel
theorem d129_34 : decode (pg_code 129) 34 = .ok (.if_icmp .le 6, 3) := by decide +kernel
theorem d129_37 : decode (pg_code 129) 37 = .ok (.bipush (-2), 2) := by decide +kernel
theorem d129_39 : decode (pg_code 129) 39 = .ok (.ireturn, 1) := by decide +kernel
theorem d129_40 : decode (pg_code 129) 40 = .ok (.iload_n 2, 1) := by decide +kernel
theorem d129_41 : decode (pg_code 129) 41 = .ok (.iconst 1, 1) := by decide +kernel
theorem d129_42 : decode (pg_code 129) 42 = .ok (.if_icmp .eq 37, 3) := by decide +kernel
theorem d129_45 : decode (pg_code 129) 45 = .ok (.iload_n 2, 1) := by decide +kernel
theorem d129_46 : decode (pg_code 129) 46 = .ok (.ifCond .ne 12, 3) := by decide +kernel
theorem d129_49 : decode (pg_code 129) 49 = .ok (.aload_n 0, 1) := by decide +kernel
theorem d129_50 : decode (pg_code 129) 50 = .ok (.getfield 89, 3) := by decide +kernel
theorem d129_53 : decode (pg_code 129) 53 = .ok (.iload_n 1, 1) := by decide +kernel
theorem d129_54 : decode (pg_code 129) 54 = .ok (.iaload, 1) := by decide +kernel
theorem d129_55 : decode (pg_code 129) 55 = .ok (.goto 23, 3) := by decide +kernel
theorem d129_58 : decode (pg_code 129) 58 = .ok (.iload_n 2, 1) := by decide +kernel
theorem d129_59 : decode (pg_code 129) 59 = .ok (.iconst 2, 1) := by decide +kernel
theorem d129_60 : decode (pg_code 129) 60 = .ok (.if_icmp .ne 12, 3) := by decide +kernel
theorem d129_63 : decode (pg_code 129) 63 = .ok (.aload_n 0, 1) := by decide +kernel
theorem d129_64 : decode (pg_code 129) 64 = .ok (.getfield 92, 3) := by decide +kernel
theorem d129_67 : decode (pg_code 129) 67 = .ok (.iload_n 1, 1) := by decide +kernel
theorem d129_68 : decode (pg_code 129) 68 = .ok (.iaload, 1) := by decide +kernel
theorem d129_69 : decode (pg_code 129) 69 = .ok (.goto 9, 3) := by decide +kernel
theorem d129_72 : decode (pg_code 129) 72 = .ok (.aload_n 0, 1) := by decide +kernel
theorem d129_73 : decode (pg_code 129) 73 = .ok (.getfield 95, 3) := by decide +kernel
theorem d129_76 : decode (pg_code 129) 76 = .ok (.iload_n 1, 1) := by decide +kernel
theorem d129_77 : decode (pg_code 129) 77 = .ok (.iaload, 1) := by decide +kernel
theorem d129_78 : decode (pg_code 129) 78 = .ok (.ireturn, 1) := by decide +kernel
theorem d129_79 : decode (pg_code 129) 79 = .ok (.iconst 0, 1) := by decide +kernel
theorem d129_80 : decode (pg_code 129) 80 = .ok (.istore_n 3, 1) := by decide +kernel
theorem d129_81 : decode (pg_code 129) 81 = .ok (.iconst 0, 1) := by decide +kernel
theorem d129_82 : decode (pg_code 129) 82 = .ok (.istore 4, 2) := by decide +kernel
theorem d129_84 : decode (pg_code 129) 84 = .ok (.iload 4, 2) := by decide +kernel
theorem d129_86 : decode (pg_code 129) 86 = .ok (.aload_n 0, 1) := by decide +kernel
theorem d129_87 : decode (pg_code 129) 87 = .ok (.getfield 197, 3) := by decide +kernel
theorem d129_90 : decode (pg_code 129) 90 = .ok (.if_icmp .ge 49, 3) := by decide +kernel
theorem d129_93 : decode (pg_code 129) 93 = .ok (.aload_n 0, 1) := by decide +kernel
theorem d129_94 : decode (pg_code 129) 94 = .ok (.getfield 98, 3) := by decide +kernel
theorem d129_97 : decode (pg_code 129) 97 = .ok (.iload 4, 2) := by decide +kernel
theorem d129_99 : decode (pg_code 129) 99 = .ok (.iaload, 1) := by decide +kernel
theorem d129_100 : decode (pg_code 129) 100 = .ok (.iload_n 1, 1) := by decide +kernel
theorem d129_101 : decode (pg_code 129) 101 = .ok (.if_icmp .eq 38, 3) := by decide +kernel
theorem d129_104 : decode (pg_code 129) 104 = .ok (.iload_n 3, 1) := by decide +kernel
theorem d129_105 : decode (pg_code 129) 105 = .ok (.aload_n 0, 1) := by decide +kernel
theorem d129_106 : decode (pg_code 129) 106 = .ok (.getfield 89, 3) := by decide +kernel
theorem d129_109 : decode (pg_code 129) 109 = .ok (.aload_n 0, 1) := by decide +kernel
theorem d129_110 : decode (pg_code 129) 110 = .ok (.getfield 98, 3) := by decide +kernel
theorem d129_113 : decode (pg_code 129) 113 = .ok (.iload 4, 2) := by decide +kernel
theorem d129_115 : decode (pg_code 129) 115 = .ok (.iaload, 1) := by decide +kernel
theorem d129_116 : decode (pg_code 129) 116 = .ok (.iaload, 1) := by decide +kernel
theorem d129_117 : decode (pg_code 129) 117 = .ok (.aload_n 0, 1) := by decide +kernel
theorem d129_118 : decode (pg_code 129) 118 = .ok (.getfield 89, 3) := by decide +kernel
theorem d129_121 : decode (pg_code 129) 121 = .ok (.iload_n 1, 1) := by decide +kernel
theorem d129_122 : decode (pg_code 129) 122 = .ok (.iaload, 1) := by decide +kernel
theorem d129_123 : decode (pg_code 129) 123 = .ok (.if_icmp .ne 7, 3) := by decide +kernel
theorem d129_126 : decode (pg_code 129) 126 = .ok (.iconst 1, 1) := by decide +kernel
theorem d129_127 : decode (pg_code 129) 127 = .ok (.goto 4, 3) := by decide +kernel
theorem d129_130 : decode (pg_code 129) 130 = .ok (.iconst 0, 1) := by decide +kernel
theorem d129_131 : decode (pg_code 129) 131 = .ok (.iadd, 1) := by decide +kernel
theorem d129_132 : decode (pg_code 129) 132 = .ok (.istore_n 3, 1) := by decide +kernel
theorem d129_133 : decode (pg_code 129) 133 = .ok (.iinc 4 1, 3) := by decide +kernel
theorem d129_136 : decode (pg_code 129) 136 = .ok (.goto (-52), 3) := by decide +kernel
theorem d129_139 : decode (pg_code 129) 139 = .ok (.iload_n 3, 1) := by decide +kernel
theorem d129_140 : decode (pg_code 129) 140 = .ok (.ireturn, 1) := by decide +kernel
theorem e129 {b1 b2 b3 : Value} : am_Call L xs d 129 [b1, b2, b3] σ Q = am_Rn L xs d 129 0 [b1, b2, b3, .retAddr 0, .retAddr 0] [] σ Q := rfl
theorem r129_0  : am_Rn L xs d 129 0 ls st σ Q = am_la ls 0 (fun x => am_Rn L xs d 129 1 ls (x :: st) σ Q) := am_r_aload_n d129_0
theorem r129_1 {p : Nat} : am_Rn L xs d 129 1 ls (.ref p :: st) σ Q = am_fd σ p 6 28 (fun v => am_Rn L xs d 129 4 ls (v :: st) σ Q) := am_r_getfield d129_1 rfl
theorem r129_4 {a : Int32} : am_Rn L xs d 129 4 ls (.int a :: st) σ Q = if a = 0 then am_Rn L xs d 129 37 ls st σ Q else am_Rn L xs d 129 7 ls st σ Q := (am_r_if (t := 37) d129_4 (by decide)).trans (am_ite _ _ trivial (by simp only [am_cond, decide_eq_true_eq]))
theorem r129_7  : am_Rn L xs d 129 7 ls st σ Q = am_li ls 1 (fun x => am_Rn L xs d 129 8 ls (.int x :: st) σ Q) := am_r_iload_n d129_7
theorem r129_8 {a : Int32} : am_Rn L xs d 129 8 ls (.int a :: st) σ Q = if a < 0 then am_Rn L xs d 129 37 ls st σ Q else am_Rn L xs d 129 11 ls st σ Q := (am_r_if (t := 37) d129_8 (by decide)).trans (am_ite _ _ trivial (by simp only [am_cond, decide_eq_true_eq]))
theorem r129_11  : am_Rn L xs d 129 11 ls st σ Q = am_li ls 1 (fun x => am_Rn L xs d 129 12 ls (.int x :: st) σ Q) := am_r_iload_n d129_11
theorem r129_12  : am_Rn L xs d 129 12 ls st σ Q = am_la ls 0 (fun x => am_Rn L xs d 129 13 ls (x :: st) σ Q) := am_r_aload_n d129_12
theorem r129_13 {p : Nat} : am_Rn L xs d 129 13 ls (.ref p :: st) σ Q = am_fd σ p 6 29 (fun v => am_Rn L xs d 129 16 ls (v :: st) σ Q) := am_r_getfield d129_13 rfl
theorem r129_16 {a b : Int32} : am_Rn L xs d 129 16 ls (.int b :: .int a :: st) σ Q = if b ≤ a then am_Rn L xs d 129 37 ls st σ Q else am_Rn L xs d 129 19 ls st σ Q := (am_r_icmp (t := 37) d129_16 (by decide)).trans (am_ite _ _ trivial (by simp only [am_cond, decide_eq_true_eq]))
theorem r129_19  : am_Rn L xs d 129 19 ls st σ Q = am_la ls 0 (fun x => am_Rn L xs d 129 20 ls (x :: st) σ Q) := am_r_aload_n d129_19
theorem r129_20 {p : Nat} : am_Rn L xs d 129 20 ls (.ref p :: st) σ Q = am_fd σ p 6 30 (fun v => am_Rn L xs d 129 23 ls (v :: st) σ Q) := am_r_getfield d129_20 rfl
theorem r129_23  : am_Rn L xs d 129 23 ls st σ Q = am_li ls 1 (fun x => am_Rn L xs d 129 24 ls (.int x :: st) σ Q) := am_r_iload_n d129_23
theorem r129_24 {p : Nat} {i : Int32} : am_Rn L xs d 129 24 ls (.int i :: .ref p :: st) σ Q = am_ai 1 σ p i (fun x => am_Rn L xs d 129 25 ls (.int x :: st) σ Q) := am_r_baload d129_24
theorem r129_25 {a : Int32} : am_Rn L xs d 129 25 ls (.int a :: st) σ Q = if a = 0 then am_Rn L xs d 129 37 ls st σ Q else am_Rn L xs d 129 28 ls st σ Q := (am_r_if (t := 37) d129_25 (by decide)).trans (am_ite _ _ trivial (by simp only [am_cond, decide_eq_true_eq]))
theorem r129_28  : am_Rn L xs d 129 28 ls st σ Q = am_li ls 2 (fun x => am_Rn L xs d 129 29 ls (.int x :: st) σ Q) := am_r_iload_n d129_28
theorem r129_29 {a : Int32} : am_Rn L xs d 129 29 ls (.int a :: st) σ Q = if a < 0 then am_Rn L xs d 129 37 ls st σ Q else am_Rn L xs d 129 32 ls st σ Q := (am_r_if (t := 37) d129_29 (by decide)).trans (am_ite _ _ trivial (by simp only [am_cond, decide_eq_true_eq]))
theorem r129_32  : am_Rn L xs d 129 32 ls st σ Q = am_li ls 2 (fun x => am_Rn L xs d 129 33 ls (.int x :: st) σ Q) := am_r_iload_n d129_32
theorem r129_33  : am_Rn L xs d 129 33 ls st σ Q = am_Rn L xs d 129 34 ls (.int 3 :: st) σ Q := am_r_iconst d129_33 (by decide)
theorem r129_34 {a b : Int32} : am_Rn L xs d 129 34 ls (.int b :: .int a :: st) σ Q = if a ≤ b then am_Rn L xs d 129 40 ls st σ Q else am_Rn L xs d 129 37 ls st σ Q := (am_r_icmp (t := 40) d129_34 (by decide)).trans (am_ite _ _ trivial (by simp only [am_cond, decide_eq_true_eq]))
theorem r129_37  : am_Rn L xs d 129 37 ls st σ Q = am_Rn L xs d 129 39 ls (.int (-2) :: st) σ Q := am_r_bipush d129_37 (by decide)
theorem r129_39 {v : Int32} : am_Rn L xs d 129 39 ls [.int v] σ Q = Q (some (.int v)) σ := am_r_ireturn d129_39 rfl
theorem r129_40  : am_Rn L xs d 129 40 ls st σ Q = am_li ls 2 (fun x => am_Rn L xs d 129 41 ls (.int x :: st) σ Q) := am_r_iload_n d129_40
theorem r129_41  : am_Rn L xs d 129 41 ls st σ Q = am_Rn L xs d 129 42 ls (.int 1 :: st) σ Q := am_r_iconst d129_41 (by decide)
theorem r129_42 {a b : Int32} : am_Rn L xs d 129 42 ls (.int b :: .int a :: st) σ Q = if a = b then am_Rn L xs d 129 79 ls st σ Q else am_Rn L xs d 129 45 ls st σ Q := (am_r_icmp (t := 79) d129_42 (by decide)).trans (am_ite _ _ trivial (by simp only [am_cond, decide_eq_true_eq]))
theorem r129_45  : am_Rn L xs d 129 45 ls st σ Q = am_li ls 2 (fun x => am_Rn L xs d 129 46 ls (.int x :: st) σ Q) := am_r_iload_n d129_45
theorem r129_46 {a : Int32} : am_Rn L xs d 129 46 ls (.int a :: st) σ Q = if ¬ a = 0 then am_Rn L xs d 129 58 ls st σ Q else am_Rn L xs d 129 49 ls st σ Q := (am_r_if (t := 58) d129_46 (by decide)).trans (am_ite _ _ trivial (by simp only [am_cond, decide_eq_true_eq]))
theorem r129_49  : am_Rn L xs d 129 49 ls st σ Q = am_la ls 0 (fun x => am_Rn L xs d 129 50 ls (x :: st) σ Q) := am_r_aload_n d129_49
theorem r129_50 {p : Nat} : am_Rn L xs d 129 50 ls (.ref p :: st) σ Q = am_fd σ p 6 31 (fun v => am_Rn L xs d 129 53 ls (v :: st) σ Q) := am_r_getfield d129_50 rfl
theorem r129_53  : am_Rn L xs d 129 53 ls st σ Q = am_li ls 1 (fun x => am_Rn L xs d 129 54 ls (.int x :: st) σ Q) := am_r_iload_n d129_53
theorem r129_54 {p : Nat} {i : Int32} : am_Rn L xs d 129 54 ls (.int i :: .ref p :: st) σ Q = am_ai 0 σ p i (fun x => am_Rn L xs d 129 55 ls (.int x :: st) σ Q) := am_r_iaload d129_54
theorem r129_55  : am_Rn L xs d 129 55 ls st σ Q = am_Rn L xs d 129 78 ls st σ Q := am_r_goto d129_55 (by decide)
theorem r129_58  : am_Rn L xs d 129 58 ls st σ Q = am_li ls 2 (fun x => am_Rn L xs d 129 59 ls (.int x :: st) σ Q) := am_r_iload_n d129_58
theorem r129_59  : am_Rn L xs d 129 59 ls st σ Q = am_Rn L xs d 129 60 ls (.int 2 :: st) σ Q := am_r_iconst d129_59 (by decide)
theorem r129_60 {a b : Int32} : am_Rn L xs d 129 60 ls (.int b :: .int a :: st) σ Q = if ¬ a = b then am_Rn L xs d 129 72 ls st σ Q else am_Rn L xs d 129 63 ls st σ Q := (am_r_icmp (t := 72) d129_60 (by decide)).trans (am_ite _ _ trivial (by simp only [am_cond, decide_eq_true_eq]))
theorem r129_63  : am_Rn L xs d 129 63 ls st σ Q = am_la ls 0 (fun x => am_Rn L xs d 129 64 ls (x :: st) σ Q) := am_r_aload_n d129_63
theorem r129_64 {p : Nat} : am_Rn L xs d 129 64 ls (.ref p :: st) σ Q = am_fd σ p 6 32 (fun v => am_Rn L xs d 129 67 ls (v :: st) σ Q) := am_r_getfield d129_64 rfl
theorem r129_67  : am_Rn L xs d 129 67 ls st σ Q = am_li ls 1 (fun x => am_Rn L xs d 129 68 ls (.int x :: st) σ Q) := am_r_iload_n d129_67
theorem r129_68 {p : Nat} {i : Int32} : am_Rn L xs d 129 68 ls (.int i :: .ref p :: st) σ Q = am_ai 0 σ p i (fun x => am_Rn L xs d 129 69 ls (.int x :: st) σ Q) := am_r_iaload d129_68
theorem r129_69  : am_Rn L xs d 129 69 ls st σ Q = am_Rn L xs d 129 78 ls st σ Q := am_r_goto d129_69 (by decide)
theorem r129_72  : am_Rn L xs d 129 72 ls st σ Q = am_la ls 0 (fun x => am_Rn L xs d 129 73 ls (x :: st) σ Q) := am_r_aload_n d129_72
theorem r129_73 {p : Nat} : am_Rn L xs d 129 73 ls (.ref p :: st) σ Q = am_fd σ p 6 33 (fun v => am_Rn L xs d 129 76 ls (v :: st) σ Q) := am_r_getfield d129_73 rfl
theorem r129_76  : am_Rn L xs d 129 76 ls st σ Q = am_li ls 1 (fun x => am_Rn L xs d 129 77 ls (.int x :: st) σ Q) := am_r_iload_n d129_76
theorem r129_77 {p : Nat} {i : Int32} : am_Rn L xs d 129 77 ls (.int i :: .ref p :: st) σ Q = am_ai 0 σ p i (fun x => am_Rn L xs d 129 78 ls (.int x :: st) σ Q) := am_r_iaload d129_77
theorem r129_78 {v : Int32} : am_Rn L xs d 129 78 ls [.int v] σ Q = Q (some (.int v)) σ := am_r_ireturn d129_78 rfl
theorem r129_79  : am_Rn L xs d 129 79 ls st σ Q = am_Rn L xs d 129 80 ls (.int 0 :: st) σ Q := am_r_iconst d129_79 (by decide)
theorem r129_80 {x : Int32} : am_Rn L xs d 129 80 ls (.int x :: st) σ Q = (3 < ls.length ∧ am_Rn L xs d 129 81 (ls.set 3 (.int x)) st σ Q) := am_r_istore_n d129_80
theorem r129_81  : am_Rn L xs d 129 81 ls st σ Q = am_Rn L xs d 129 82 ls (.int 0 :: st) σ Q := am_r_iconst d129_81 (by decide)
theorem r129_82 {x : Int32} : am_Rn L xs d 129 82 ls (.int x :: st) σ Q = (4 < ls.length ∧ am_Rn L xs d 129 84 (ls.set 4 (.int x)) st σ Q) := am_r_istore d129_82
theorem r129_84  : am_Rn L xs d 129 84 ls st σ Q = am_li ls 4 (fun x => am_Rn L xs d 129 86 ls (.int x :: st) σ Q) := am_r_iload d129_84
theorem r129_86  : am_Rn L xs d 129 86 ls st σ Q = am_la ls 0 (fun x => am_Rn L xs d 129 87 ls (x :: st) σ Q) := am_r_aload_n d129_86
theorem r129_87 {p : Nat} : am_Rn L xs d 129 87 ls (.ref p :: st) σ Q = am_fd σ p 6 35 (fun v => am_Rn L xs d 129 90 ls (v :: st) σ Q) := am_r_getfield d129_87 rfl
theorem r129_90 {a b : Int32} : am_Rn L xs d 129 90 ls (.int b :: .int a :: st) σ Q = if b ≤ a then am_Rn L xs d 129 139 ls st σ Q else am_Rn L xs d 129 93 ls st σ Q := (am_r_icmp (t := 139) d129_90 (by decide)).trans (am_ite _ _ trivial (by simp only [am_cond, decide_eq_true_eq]))
theorem r129_93  : am_Rn L xs d 129 93 ls st σ Q = am_la ls 0 (fun x => am_Rn L xs d 129 94 ls (x :: st) σ Q) := am_r_aload_n d129_93
theorem r129_94 {p : Nat} : am_Rn L xs d 129 94 ls (.ref p :: st) σ Q = am_fd σ p 6 34 (fun v => am_Rn L xs d 129 97 ls (v :: st) σ Q) := am_r_getfield d129_94 rfl
theorem r129_97  : am_Rn L xs d 129 97 ls st σ Q = am_li ls 4 (fun x => am_Rn L xs d 129 99 ls (.int x :: st) σ Q) := am_r_iload d129_97
theorem r129_99 {p : Nat} {i : Int32} : am_Rn L xs d 129 99 ls (.int i :: .ref p :: st) σ Q = am_ai 0 σ p i (fun x => am_Rn L xs d 129 100 ls (.int x :: st) σ Q) := am_r_iaload d129_99
theorem r129_100  : am_Rn L xs d 129 100 ls st σ Q = am_li ls 1 (fun x => am_Rn L xs d 129 101 ls (.int x :: st) σ Q) := am_r_iload_n d129_100
theorem r129_101 {a b : Int32} : am_Rn L xs d 129 101 ls (.int b :: .int a :: st) σ Q = if a = b then am_Rn L xs d 129 139 ls st σ Q else am_Rn L xs d 129 104 ls st σ Q := (am_r_icmp (t := 139) d129_101 (by decide)).trans (am_ite _ _ trivial (by simp only [am_cond, decide_eq_true_eq]))
theorem r129_104  : am_Rn L xs d 129 104 ls st σ Q = am_li ls 3 (fun x => am_Rn L xs d 129 105 ls (.int x :: st) σ Q) := am_r_iload_n d129_104
theorem r129_105  : am_Rn L xs d 129 105 ls st σ Q = am_la ls 0 (fun x => am_Rn L xs d 129 106 ls (x :: st) σ Q) := am_r_aload_n d129_105
theorem r129_106 {p : Nat} : am_Rn L xs d 129 106 ls (.ref p :: st) σ Q = am_fd σ p 6 31 (fun v => am_Rn L xs d 129 109 ls (v :: st) σ Q) := am_r_getfield d129_106 rfl
theorem r129_109  : am_Rn L xs d 129 109 ls st σ Q = am_la ls 0 (fun x => am_Rn L xs d 129 110 ls (x :: st) σ Q) := am_r_aload_n d129_109
theorem r129_110 {p : Nat} : am_Rn L xs d 129 110 ls (.ref p :: st) σ Q = am_fd σ p 6 34 (fun v => am_Rn L xs d 129 113 ls (v :: st) σ Q) := am_r_getfield d129_110 rfl
theorem r129_113  : am_Rn L xs d 129 113 ls st σ Q = am_li ls 4 (fun x => am_Rn L xs d 129 115 ls (.int x :: st) σ Q) := am_r_iload d129_113
theorem r129_115 {p : Nat} {i : Int32} : am_Rn L xs d 129 115 ls (.int i :: .ref p :: st) σ Q = am_ai 0 σ p i (fun x => am_Rn L xs d 129 116 ls (.int x :: st) σ Q) := am_r_iaload d129_115
theorem r129_116 {p : Nat} {i : Int32} : am_Rn L xs d 129 116 ls (.int i :: .ref p :: st) σ Q = am_ai 0 σ p i (fun x => am_Rn L xs d 129 117 ls (.int x :: st) σ Q) := am_r_iaload d129_116
theorem r129_117  : am_Rn L xs d 129 117 ls st σ Q = am_la ls 0 (fun x => am_Rn L xs d 129 118 ls (x :: st) σ Q) := am_r_aload_n d129_117
theorem r129_118 {p : Nat} : am_Rn L xs d 129 118 ls (.ref p :: st) σ Q = am_fd σ p 6 31 (fun v => am_Rn L xs d 129 121 ls (v :: st) σ Q) := am_r_getfield d129_118 rfl
theorem r129_121  : am_Rn L xs d 129 121 ls st σ Q = am_li ls 1 (fun x => am_Rn L xs d 129 122 ls (.int x :: st) σ Q) := am_r_iload_n d129_121
theorem r129_122 {p : Nat} {i : Int32} : am_Rn L xs d 129 122 ls (.int i :: .ref p :: st) σ Q = am_ai 0 σ p i (fun x => am_Rn L xs d 129 123 ls (.int x :: st) σ Q) := am_r_iaload d129_122
theorem r129_123 {a b : Int32} : am_Rn L xs d 129 123 ls (.int b :: .int a :: st) σ Q = if ¬ a = b then am_Rn L xs d 129 130 ls st σ Q else am_Rn L xs d 129 126 ls st σ Q := (am_r_icmp (t := 130) d129_123 (by decide)).trans (am_ite _ _ trivial (by simp only [am_cond, decide_eq_true_eq]))
theorem r129_126  : am_Rn L xs d 129 126 ls st σ Q = am_Rn L xs d 129 127 ls (.int 1 :: st) σ Q := am_r_iconst d129_126 (by decide)
theorem r129_127  : am_Rn L xs d 129 127 ls st σ Q = am_Rn L xs d 129 131 ls st σ Q := am_r_goto d129_127 (by decide)
theorem r129_130  : am_Rn L xs d 129 130 ls st σ Q = am_Rn L xs d 129 131 ls (.int 0 :: st) σ Q := am_r_iconst d129_130 (by decide)
theorem r129_131 {a b : Int32} : am_Rn L xs d 129 131 ls (.int b :: .int a :: st) σ Q = am_Rn L xs d 129 132 ls (.int (a + b) :: st) σ Q := am_r_iadd d129_131
theorem r129_132 {x : Int32} : am_Rn L xs d 129 132 ls (.int x :: st) σ Q = (3 < ls.length ∧ am_Rn L xs d 129 133 (ls.set 3 (.int x)) st σ Q) := am_r_istore_n d129_132
theorem r129_133  : am_Rn L xs d 129 133 ls st σ Q = am_li ls 4 (fun x => am_Rn L xs d 129 136 (ls.set 4 (.int (x + 1))) st σ Q) := am_r_iinc d129_133 (by decide)
theorem r129_136  : am_Rn L xs d 129 136 ls st σ Q = am_Rn L xs d 129 84 ls st σ Q := am_r_goto d129_136 (by decide)
theorem r129_139  : am_Rn L xs d 129 139 ls st σ Q = am_li ls 3 (fun x => am_Rn L xs d 129 140 ls (.int x :: st) σ Q) := am_r_iload_n d129_139
theorem r129_140 {v : Int32} : am_Rn L xs d 129 140 ls [.int v] σ Q = Q (some (.int v)) σ := am_r_ireturn d129_140 rfl
theorem d130_0 : decode (pg_code 130) 0 = .ok (.aload_n 0, 1) := by decide +kernel
theorem d130_1 : decode (pg_code 130) 1 = .ok (.getfield 218, 3) := by decide +kernel
theorem d130_4 : decode (pg_code 130) 4 = .ok (.ifCond .eq 37, 3) := by decide +kernel
theorem d130_7 : decode (pg_code 130) 7 = .ok (.iload_n 1, 1) := by decide +kernel
theorem d130_8 : decode (pg_code 130) 8 = .ok (.invokestatic 113, 3) := by decide +kernel
theorem d130_11 : decode (pg_code 130) 11 = .ok (.ifCond .eq 30, 3) := by decide +kernel
theorem d130_14 : decode (pg_code 130) 14 = .ok (.aload_n 0, 1) := by decide +kernel
theorem d130_15 : decode (pg_code 130) 15 = .ok (.getfield 7, 3) := by decide +kernel
theorem d130_18 : decode (pg_code 130) 18 = .ok (.iload_n 1, 1) := by decide +kernel
theorem d130_19 : decode (pg_code 130) 19 = .ok (.iaload, 1) := by decide +kernel
theorem d130_20 : decode (pg_code 130) 20 = .ok (.ifCond .eq 21, 3) := by decide +kernel
theorem d130_23 : decode (pg_code 130) 23 = .ok (.aload_n 0, 1) := by decide +kernel
theorem d130_24 : decode (pg_code 130) 24 = .ok (.iconst (-1), 1) := by decide +kernel
theorem d130_25 : decode (pg_code 130) 25 = .ok (.iconst 0, 1) := by decide +kernel
theorem d130_26 : decode (pg_code 130) 26 = .ok (.invokevirtual 253, 3) := by decide +kernel
theorem d130_29 : decode (pg_code 130) 29 = .ok (.ifCond .lt 12, 3) := by decide +kernel
theorem d130_32 : decode (pg_code 130) 32 = .ok (.aload_n 0, 1) := by decide +kernel
theorem d130_33 : decode (pg_code 130) 33 = .ok (.iconst (-1), 1) := by decide +kernel
theorem d130_34 : decode (pg_code 130) 34 = .ok (.iconst 1, 1) := by decide +kernel
theorem d130_35 : decode (pg_code 130) 35 = .ok (.invokevirtual 253, 3) := by decide +kernel
theorem d130_38 : decode (pg_code 130) 38 = .ok (.ifCond .lt 5, 3) := by decide +kernel
theorem d130_41 : decode (pg_code 130) 41 = .ok (.iconst 0, 1) := by decide +kernel
theorem d130_42 : decode (pg_code 130) 42 = .ok (.ireturn, 1) := by decide +kernel
theorem d130_43 : decode (pg_code 130) 43 = .ok (.aload_n 0, 1) := by decide +kernel
theorem d130_44 : decode (pg_code 130) 44 = .ok (.getfield 101, 3) := by decide +kernel
theorem d130_47 : decode (pg_code 130) 47 = .ok (.iconst 0, 1) := by decide +kernel
theorem d130_48 : decode (pg_code 130) 48 = .ok (.aload_n 0, 1) := by decide +kernel
theorem d130_49 : decode (pg_code 130) 49 = .ok (.iconst (-1), 1) := by decide +kernel
theorem d130_50 : decode (pg_code 130) 50 = .ok (.iconst 0, 1) := by decide +kernel
theorem d130_51 : decode (pg_code 130) 51 = .ok (.invokevirtual 253, 3) := by decide +kernel
theorem d130_54 : decode (pg_code 130) 54 = .ok (.iastore, 1) := by decide +kernel
theorem d130_55 : decode (pg_code 130) 55 = .ok (.aload_n 0, 1) := by decide +kernel
theorem d130_56 : decode (pg_code 130) 56 = .ok (.getfield 104, 3) := by decide +kernel
theorem d130_59 : decode (pg_code 130) 59 = .ok (.iconst 0, 1) := by decide +kernel
theorem d130_60 : decode (pg_code 130) 60 = .ok (.iconst 0, 1) := by decide +kernel
theorem d130_61 : decode (pg_code 130) 61 = .ok (.iastore, 1) := by decide +kernel
theorem d130_62 : decode (pg_code 130) 62 = .ok (.iconst 1, 1) := by decide +kernel
theorem d130_63 : decode (pg_code 130) 63 = .ok (.istore_n 2, 1) := by decide +kernel
theorem d130_64 : decode (pg_code 130) 64 = .ok (.iconst 0, 1) := by decide +kernel
theorem d130_65 : decode (pg_code 130) 65 = .ok (.istore_n 3, 1) := by decide +kernel
theorem d130_66 : decode (pg_code 130) 66 = .ok (.iload_n 3, 1) := by decide +kernel
theorem d130_67 : decode (pg_code 130) 67 = .ok (.iload_n 2, 1) := by decide +kernel
theorem d130_68 : decode (pg_code 130) 68 = .ok (.if_icmp .ge 160, 3) := by decide +kernel
theorem d130_71 : decode (pg_code 130) 71 = .ok (.aload_n 0, 1) := by decide +kernel
theorem d130_72 : decode (pg_code 130) 72 = .ok (.getfield 101, 3) := by decide +kernel
theorem d130_75 : decode (pg_code 130) 75 = .ok (.iload_n 3, 1) := by decide +kernel
theorem d130_76 : decode (pg_code 130) 76 = .ok (.iaload, 1) := by decide +kernel
theorem d130_77 : decode (pg_code 130) 77 = .ok (.istore 4, 2) := by decide +kernel
theorem d130_79 : decode (pg_code 130) 79 = .ok (.aload_n 0, 1) := by decide +kernel
theorem d130_80 : decode (pg_code 130) 80 = .ok (.getfield 104, 3) := by decide +kernel
theorem d130_83 : decode (pg_code 130) 83 = .ok (.iload_n 3, 1) := by decide +kernel
theorem d130_84 : decode (pg_code 130) 84 = .ok (.iaload, 1) := by decide +kernel
theorem d130_85 : decode (pg_code 130) 85 = .ok (.istore 5, 2) := by decide +kernel
theorem d130_87 : decode (pg_code 130) 87 = .ok (.aload_n 0, 1) := by decide +kernel
theorem d130_88 : decode (pg_code 130) 88 = .ok (.getfield 92, 3) := by decide +kernel
theorem d130_91 : decode (pg_code 130) 91 = .ok (.iload 4, 2) := by decide +kernel
theorem d130_93 : decode (pg_code 130) 93 = .ok (.iaload, 1) := by decide +kernel
theorem d130_94 : decode (pg_code 130) 94 = .ok (.aload_n 0, 1) := by decide +kernel
theorem d130_95 : decode (pg_code 130) 95 = .ok (.getfield 16, 3) := by decide +kernel
theorem d130_98 : decode (pg_code 130) 98 = .ok (.bipush 12, 2) := by decide +kernel
theorem d130_100 : decode (pg_code 130) 100 = .ok (.iload_n 1, 1) := by decide +kernel
theorem d130_101 : decode (pg_code 130) 101 = .ok (.imul, 1) := by decide +kernel
theorem d130_102 : decode (pg_code 130) 102 = .ok (.iload 5, 2) := by decide +kernel
theorem d130_104 : decode (pg_code 130) 104 = .ok (.iadd, 1) := by decide +kernel
theorem d130_105 : decode (pg_code 130) 105 = .ok (.iaload, 1) := by decide +kernel
theorem d130_106 : decode (pg_code 130) 106 = .ok (.if_icmp .ne 25, 3) := by decide +kernel
theorem d130_109 : decode (pg_code 130) 109 = .ok (.aload_n 0, 1) := by decide +kernel
theorem d130_110 : decode (pg_code 130) 110 = .ok (.getfield 95, 3) := by decide +kernel
theorem d130_113 : decode (pg_code 130) 113 = .ok (.iload 4, 2) := by decide +kernel
theorem d130_115 : decode (pg_code 130) 115 = .ok (.iaload, 1) := by decide +kernel
theorem d130_116 : decode (pg_code 130) 116 = .ok (.aload_n 0, 1) := by decide +kernel
theorem d130_117 : decode (pg_code 130) 117 = .ok (.getfield 19, 3) := by decide +kernel
theorem d130_120 : decode (pg_code 130) 120 = .ok (.bipush 12, 2) := by decide +kernel
theorem d130_122 : decode (pg_code 130) 122 = .ok (.iload_n 1, 1) := by decide +kernel
theorem d130_123 : decode (pg_code 130) 123 = .ok (.imul, 1) := by decide +kernel
theorem d130_124 : decode (pg_code 130) 124 = .ok (.iload 5, 2) := by decide +kernel
theorem d130_126 : decode (pg_code 130) 126 = .ok (.iadd, 1) := by decide +kernel
theorem d130_127 : decode (pg_code 130) 127 = .ok (.iaload, 1) := by decide +kernel
theorem d130_128 : decode (pg_code 130) 128 = .ok (.if_icmp .eq 5, 3) := by decide +kernel
theorem d130_131 : decode (pg_code 130) 131 = .ok (.iconst 0, 1) := by decide +kernel
theorem d130_132 : decode (pg_code 130) 132 = .ok (.ireturn, 1) := by decide +kernel
theorem d130_133 : decode (pg_code 130) 133 = .ok (.iconst 0, 1) := by decide +kernel
theorem d130_134 : decode (pg_code 130) 134 = .ok (.istore 6, 2) := by decide +kernel
theorem d130_136 : decode (pg_code 130) 136 = .ok (.aload_n 0, 1) := by decide +kernel
theorem d130_137 : decode (pg_code 130) 137 = .ok (.iload 4, 2) := by decide +kernel
theorem d130_139 : decode (pg_code 130) 139 = .ok (.iload 6, 2) := by decide +kernel
theorem d130_141 : decode (pg_code 130) 141 = .ok (.invokevirtual 253, 3) := by decide +kernel
theorem d130_144 : decode (pg_code 130) 144 = .ok (.ifCond .lt 53, 3) := by decide +kernel
theorem d130_147 : decode (pg_code 130) 147 = .ok (.aload_n 0, 1) := by decide +kernel
theorem d130_148 : decode (pg_code 130) 148 = .ok (.iload_n 1, 1) := by decide +kernel
theorem d130_149 : decode (pg_code 130) 149 = .ok (.iload 5, 2) := by decide +kernel
theorem d130_151 : decode (pg_code 130) 151 = .ok (.iload 6, 2) := by decide +kernel
theorem d130_153 : decode (pg_code 130) 153 = .ok (.invokevirtual 121, 3) := by decide +kernel
theorem d130_156 : decode (pg_code 130) 156 = .ok (.ifCond .lt 41, 3) := by decide +kernel
theorem d130_159 : decode (pg_code 130) 159 = .ok (.aload_n 0, 1) := by decide +kernel
theorem d130_160 : decode (pg_code 130) 160 = .ok (.getfield 101, 3) := by decide +kernel
theorem d130_163 : decode (pg_code 130) 163 = .ok (.iload_n 2, 1) := by decide +kernel
theorem d130_164 : decode (pg_code 130) 164 = .ok (.aload_n 0, 1) := by decide +kernel
theorem d130_165 : decode (pg_code 130) 165 = .ok (.iload 4, 2) := by decide +kernel
theorem d130_167 : decode (pg_code 130) 167 = .ok (.iload 6, 2) := by decide +kernel
theorem d130_169 : decode (pg_code 130) 169 = .ok (.invokevirtual 253, 3) := by decide +kernel
theorem d130_172 : decode (pg_code 130) 172 = .ok (.iastore, 1) := by decide +kernel
theorem d130_173 : decode (pg_code 130) 173 = .ok (.aload_n 0, 1) := by decide +kernel
theorem d130_174 : decode (pg_code 130) 174 = .ok (.getfield 104, 3) := by decide +kernel
theorem d130_177 : decode (pg_code 130) 177 = .ok (.iload_n 2, 1) := by decide +kernel
theorem d130_178 : decode (pg_code 130) 178 = .ok (.aload_n 0, 1) := by decide +kernel
theorem d130_179 : decode (pg_code 130) 179 = .ok (.iload_n 1, 1) := by decide +kernel
theorem d130_180 : decode (pg_code 130) 180 = .ok (.iload 5, 2) := by decide +kernel
theorem d130_182 : decode (pg_code 130) 182 = .ok (.iload 6, 2) := by decide +kernel
theorem d130_184 : decode (pg_code 130) 184 = .ok (.invokevirtual 121, 3) := by decide +kernel
theorem d130_187 : decode (pg_code 130) 187 = .ok (.iastore, 1) := by decide +kernel
theorem d130_188 : decode (pg_code 130) 188 = .ok (.iinc 2 1, 3) := by decide +kernel
theorem d130_191 : decode (pg_code 130) 191 = .ok (.iinc 6 1, 3) := by decide +kernel
theorem d130_194 : decode (pg_code 130) 194 = .ok (.goto (-58), 3) := by decide +kernel
theorem d130_197 : decode (pg_code 130) 197 = .ok (.aload_n 0, 1) := by decide +kernel
theorem d130_198 : decode (pg_code 130) 198 = .ok (.iload 4, 2) := by decide +kernel
theorem d130_200 : decode (pg_code 130) 200 = .ok (.iload 6, 2) := by decide +kernel
theorem d130_202 : decode (pg_code 130) 202 = .ok (.invokevirtual 253, 3) := by decide +kernel
theorem d130_205 : decode (pg_code 130) 205 = .ok (.ifCond .ge 15, 3) := by decide +kernel
theorem d130_208 : decode (pg_code 130) 208 = .ok (.aload_n 0, 1) := by decide +kernel
theorem d130_209 : decode (pg_code 130) 209 = .ok (.iload_n 1, 1) := by decide +kernel
theorem d130_210 : decode (pg_code 130) 210 = .ok (.iload 5, 2) := by decide +kernel
theorem d130_212 : decode (pg_code 130) 212 = .ok (.iload 6, 2) := by decide +kernel
theorem d130_214 : decode (pg_code 130) 214 = .ok (.invokevirtual 121, 3) := by decide +kernel
theorem d130_217 : decode (pg_code 130) 217 = .ok (.ifCond .lt 5, 3) := by decide +kernel
theorem d130_220 : decode (pg_code 130) 220 = .ok (.iconst 0, 1) := by decide +kernel
theorem d130_221 : decode (pg_code 130) 221 = .ok (.ireturn, 1) := by decide +kernel
theorem d130_222 : decode (pg_code 130) 222 = .ok (.iinc 3 1, 3) := by decide +kernel
theorem d130_225 : decode (pg_code 130) 225 = .ok (.goto (-159), 3) := by decide +kernel
theorem d130_228 : decode (pg_code 130) 228 = .ok (.iconst 1, 1) := by decide +kernel
theorem d130_229 : decode (pg_code 130) 229 = .ok (.ireturn, 1) := by decide +kernel
theorem e130 {b1 b2 : Value} : am_Call L xs d 130 [b1, b2] σ Q = am_Rn L xs d 130 0 [b1, b2, .retAddr 0, .retAddr 0, .retAddr 0, .retAddr 0, .retAddr 0] [] σ Q := rfl
theorem r130_0  : am_Rn L xs d 130 0 ls st σ Q = am_la ls 0 (fun x => am_Rn L xs d 130 1 ls (x :: st) σ Q) := am_r_aload_n d130_0
theorem r130_1 {p : Nat} : am_Rn L xs d 130 1 ls (.ref p :: st) σ Q = am_fd σ p 6 28 (fun v => am_Rn L xs d 130 4 ls (v :: st) σ Q) := am_r_getfield d130_1 rfl
theorem r130_4 {a : Int32} : am_Rn L xs d 130 4 ls (.int a :: st) σ Q = if a = 0 then am_Rn L xs d 130 41 ls st σ Q else am_Rn L xs d 130 7 ls st σ Q := (am_r_if (t := 41) d130_4 (by decide)).trans (am_ite _ _ trivial (by simp only [am_cond, decide_eq_true_eq]))
theorem r130_7  : am_Rn L xs d 130 7 ls st σ Q = am_li ls 1 (fun x => am_Rn L xs d 130 8 ls (.int x :: st) σ Q) := am_r_iload_n d130_7
theorem r130_8 {a1 : Value} : am_Rn L xs (d + 1) 130 8 ls (a1 :: st) σ Q = ((st.length ≤ 4 ∧ am_ok a1 = true) ∧ am_Call L xs d 85 [a1] σ (fun r σ1 => am_Rn L xs (d + 1) 130 11 ls (r.toList ++ st) σ1 Q)) := am_R_static1 d130_8 rfl ⟨by decide, rfl⟩ rfl (by decide)
theorem r130_11 {a : Int32} : am_Rn L xs d 130 11 ls (.int a :: st) σ Q = if a = 0 then am_Rn L xs d 130 41 ls st σ Q else am_Rn L xs d 130 14 ls st σ Q := (am_r_if (t := 41) d130_11 (by decide)).trans (am_ite _ _ trivial (by simp only [am_cond, decide_eq_true_eq]))
theorem r130_14  : am_Rn L xs d 130 14 ls st σ Q = am_la ls 0 (fun x => am_Rn L xs d 130 15 ls (x :: st) σ Q) := am_r_aload_n d130_14
theorem r130_15 {p : Nat} : am_Rn L xs d 130 15 ls (.ref p :: st) σ Q = am_fd σ p 6 0 (fun v => am_Rn L xs d 130 18 ls (v :: st) σ Q) := am_r_getfield d130_15 rfl
theorem r130_18  : am_Rn L xs d 130 18 ls st σ Q = am_li ls 1 (fun x => am_Rn L xs d 130 19 ls (.int x :: st) σ Q) := am_r_iload_n d130_18
theorem r130_19 {p : Nat} {i : Int32} : am_Rn L xs d 130 19 ls (.int i :: .ref p :: st) σ Q = am_ai 0 σ p i (fun x => am_Rn L xs d 130 20 ls (.int x :: st) σ Q) := am_r_iaload d130_19
theorem r130_20 {a : Int32} : am_Rn L xs d 130 20 ls (.int a :: st) σ Q = if a = 0 then am_Rn L xs d 130 41 ls st σ Q else am_Rn L xs d 130 23 ls st σ Q := (am_r_if (t := 41) d130_20 (by decide)).trans (am_ite _ _ trivial (by simp only [am_cond, decide_eq_true_eq]))
theorem r130_23  : am_Rn L xs d 130 23 ls st σ Q = am_la ls 0 (fun x => am_Rn L xs d 130 24 ls (x :: st) σ Q) := am_r_aload_n d130_23
theorem r130_24  : am_Rn L xs d 130 24 ls st σ Q = am_Rn L xs d 130 25 ls (.int (-1) :: st) σ Q := am_r_iconst d130_24 (by decide)
theorem r130_25  : am_Rn L xs d 130 25 ls st σ Q = am_Rn L xs d 130 26 ls (.int 0 :: st) σ Q := am_r_iconst d130_25 (by decide)
theorem r130_26 {a1 a2 : Value} {p : Nat} : am_Rn L xs (d + 1) 130 26 ls (a2 :: a1 :: .ref p :: st) σ Q = ((am_oc σ p = 6 ∧ st.length ≤ 4 ∧ am_ok a1 = true ∧ am_ok a2 = true) ∧ am_Call L xs d 131 [.ref p, a1, a2] σ (fun r σ1 => am_Rn L xs (d + 1) 130 29 ls (r.toList ++ st) σ1 Q)) := am_R_virtual2 d130_26 rfl ⟨by decide, rfl⟩ rfl rfl (by decide)
theorem r130_29 {a : Int32} : am_Rn L xs d 130 29 ls (.int a :: st) σ Q = if a < 0 then am_Rn L xs d 130 41 ls st σ Q else am_Rn L xs d 130 32 ls st σ Q := (am_r_if (t := 41) d130_29 (by decide)).trans (am_ite _ _ trivial (by simp only [am_cond, decide_eq_true_eq]))
theorem r130_32  : am_Rn L xs d 130 32 ls st σ Q = am_la ls 0 (fun x => am_Rn L xs d 130 33 ls (x :: st) σ Q) := am_r_aload_n d130_32
theorem r130_33  : am_Rn L xs d 130 33 ls st σ Q = am_Rn L xs d 130 34 ls (.int (-1) :: st) σ Q := am_r_iconst d130_33 (by decide)
theorem r130_34  : am_Rn L xs d 130 34 ls st σ Q = am_Rn L xs d 130 35 ls (.int 1 :: st) σ Q := am_r_iconst d130_34 (by decide)
theorem r130_35 {a1 a2 : Value} {p : Nat} : am_Rn L xs (d + 1) 130 35 ls (a2 :: a1 :: .ref p :: st) σ Q = ((am_oc σ p = 6 ∧ st.length ≤ 4 ∧ am_ok a1 = true ∧ am_ok a2 = true) ∧ am_Call L xs d 131 [.ref p, a1, a2] σ (fun r σ1 => am_Rn L xs (d + 1) 130 38 ls (r.toList ++ st) σ1 Q)) := am_R_virtual2 d130_35 rfl ⟨by decide, rfl⟩ rfl rfl (by decide)
theorem r130_38 {a : Int32} : am_Rn L xs d 130 38 ls (.int a :: st) σ Q = if a < 0 then am_Rn L xs d 130 43 ls st σ Q else am_Rn L xs d 130 41 ls st σ Q := (am_r_if (t := 43) d130_38 (by decide)).trans (am_ite _ _ trivial (by simp only [am_cond, decide_eq_true_eq]))
theorem r130_41  : am_Rn L xs d 130 41 ls st σ Q = am_Rn L xs d 130 42 ls (.int 0 :: st) σ Q := am_r_iconst d130_41 (by decide)
theorem r130_42 {v : Int32} (hv : v = 0 ∨ v = 1) : am_Rn L xs d 130 42 ls [.int v] σ Q = Q (some (.int v)) σ := am_r_zreturn d130_42 rfl hv
theorem r130_43  : am_Rn L xs d 130 43 ls st σ Q = am_la ls 0 (fun x => am_Rn L xs d 130 44 ls (x :: st) σ Q) := am_r_aload_n d130_43
theorem r130_44 {p : Nat} : am_Rn L xs d 130 44 ls (.ref p :: st) σ Q = am_fd σ p 6 36 (fun v => am_Rn L xs d 130 47 ls (v :: st) σ Q) := am_r_getfield d130_44 rfl
theorem r130_47  : am_Rn L xs d 130 47 ls st σ Q = am_Rn L xs d 130 48 ls (.int 0 :: st) σ Q := am_r_iconst d130_47 (by decide)
theorem r130_48  : am_Rn L xs d 130 48 ls st σ Q = am_la ls 0 (fun x => am_Rn L xs d 130 49 ls (x :: st) σ Q) := am_r_aload_n d130_48
theorem r130_49  : am_Rn L xs d 130 49 ls st σ Q = am_Rn L xs d 130 50 ls (.int (-1) :: st) σ Q := am_r_iconst d130_49 (by decide)
theorem r130_50  : am_Rn L xs d 130 50 ls st σ Q = am_Rn L xs d 130 51 ls (.int 0 :: st) σ Q := am_r_iconst d130_50 (by decide)
theorem r130_51 {a1 a2 : Value} {p : Nat} : am_Rn L xs (d + 1) 130 51 ls (a2 :: a1 :: .ref p :: st) σ Q = ((am_oc σ p = 6 ∧ st.length ≤ 4 ∧ am_ok a1 = true ∧ am_ok a2 = true) ∧ am_Call L xs d 131 [.ref p, a1, a2] σ (fun r σ1 => am_Rn L xs (d + 1) 130 54 ls (r.toList ++ st) σ1 Q)) := am_R_virtual2 d130_51 rfl ⟨by decide, rfl⟩ rfl rfl (by decide)
theorem r130_54 {p : Nat} {i x : Int32} : am_Rn L xs d 130 54 ls (.int x :: .int i :: .ref p :: st) σ Q = am_wi 0 σ p i x (fun σ1 => am_Rn L xs d 130 55 ls st σ1 Q) := am_r_iastore d130_54
theorem r130_55  : am_Rn L xs d 130 55 ls st σ Q = am_la ls 0 (fun x => am_Rn L xs d 130 56 ls (x :: st) σ Q) := am_r_aload_n d130_55
theorem r130_56 {p : Nat} : am_Rn L xs d 130 56 ls (.ref p :: st) σ Q = am_fd σ p 6 37 (fun v => am_Rn L xs d 130 59 ls (v :: st) σ Q) := am_r_getfield d130_56 rfl
theorem r130_59  : am_Rn L xs d 130 59 ls st σ Q = am_Rn L xs d 130 60 ls (.int 0 :: st) σ Q := am_r_iconst d130_59 (by decide)
theorem r130_60  : am_Rn L xs d 130 60 ls st σ Q = am_Rn L xs d 130 61 ls (.int 0 :: st) σ Q := am_r_iconst d130_60 (by decide)
theorem r130_61 {p : Nat} {i x : Int32} : am_Rn L xs d 130 61 ls (.int x :: .int i :: .ref p :: st) σ Q = am_wi 0 σ p i x (fun σ1 => am_Rn L xs d 130 62 ls st σ1 Q) := am_r_iastore d130_61
theorem r130_62  : am_Rn L xs d 130 62 ls st σ Q = am_Rn L xs d 130 63 ls (.int 1 :: st) σ Q := am_r_iconst d130_62 (by decide)
theorem r130_63 {x : Int32} : am_Rn L xs d 130 63 ls (.int x :: st) σ Q = (2 < ls.length ∧ am_Rn L xs d 130 64 (ls.set 2 (.int x)) st σ Q) := am_r_istore_n d130_63
theorem r130_64  : am_Rn L xs d 130 64 ls st σ Q = am_Rn L xs d 130 65 ls (.int 0 :: st) σ Q := am_r_iconst d130_64 (by decide)
theorem r130_65 {x : Int32} : am_Rn L xs d 130 65 ls (.int x :: st) σ Q = (3 < ls.length ∧ am_Rn L xs d 130 66 (ls.set 3 (.int x)) st σ Q) := am_r_istore_n d130_65
theorem r130_66  : am_Rn L xs d 130 66 ls st σ Q = am_li ls 3 (fun x => am_Rn L xs d 130 67 ls (.int x :: st) σ Q) := am_r_iload_n d130_66
theorem r130_67  : am_Rn L xs d 130 67 ls st σ Q = am_li ls 2 (fun x => am_Rn L xs d 130 68 ls (.int x :: st) σ Q) := am_r_iload_n d130_67
theorem r130_68 {a b : Int32} : am_Rn L xs d 130 68 ls (.int b :: .int a :: st) σ Q = if b ≤ a then am_Rn L xs d 130 228 ls st σ Q else am_Rn L xs d 130 71 ls st σ Q := (am_r_icmp (t := 228) d130_68 (by decide)).trans (am_ite _ _ trivial (by simp only [am_cond, decide_eq_true_eq]))
theorem r130_71  : am_Rn L xs d 130 71 ls st σ Q = am_la ls 0 (fun x => am_Rn L xs d 130 72 ls (x :: st) σ Q) := am_r_aload_n d130_71
theorem r130_72 {p : Nat} : am_Rn L xs d 130 72 ls (.ref p :: st) σ Q = am_fd σ p 6 36 (fun v => am_Rn L xs d 130 75 ls (v :: st) σ Q) := am_r_getfield d130_72 rfl
theorem r130_75  : am_Rn L xs d 130 75 ls st σ Q = am_li ls 3 (fun x => am_Rn L xs d 130 76 ls (.int x :: st) σ Q) := am_r_iload_n d130_75
theorem r130_76 {p : Nat} {i : Int32} : am_Rn L xs d 130 76 ls (.int i :: .ref p :: st) σ Q = am_ai 0 σ p i (fun x => am_Rn L xs d 130 77 ls (.int x :: st) σ Q) := am_r_iaload d130_76
theorem r130_77 {x : Int32} : am_Rn L xs d 130 77 ls (.int x :: st) σ Q = (4 < ls.length ∧ am_Rn L xs d 130 79 (ls.set 4 (.int x)) st σ Q) := am_r_istore d130_77
theorem r130_79  : am_Rn L xs d 130 79 ls st σ Q = am_la ls 0 (fun x => am_Rn L xs d 130 80 ls (x :: st) σ Q) := am_r_aload_n d130_79
theorem r130_80 {p : Nat} : am_Rn L xs d 130 80 ls (.ref p :: st) σ Q = am_fd σ p 6 37 (fun v => am_Rn L xs d 130 83 ls (v :: st) σ Q) := am_r_getfield d130_80 rfl
theorem r130_83  : am_Rn L xs d 130 83 ls st σ Q = am_li ls 3 (fun x => am_Rn L xs d 130 84 ls (.int x :: st) σ Q) := am_r_iload_n d130_83
theorem r130_84 {p : Nat} {i : Int32} : am_Rn L xs d 130 84 ls (.int i :: .ref p :: st) σ Q = am_ai 0 σ p i (fun x => am_Rn L xs d 130 85 ls (.int x :: st) σ Q) := am_r_iaload d130_84
theorem r130_85 {x : Int32} : am_Rn L xs d 130 85 ls (.int x :: st) σ Q = (5 < ls.length ∧ am_Rn L xs d 130 87 (ls.set 5 (.int x)) st σ Q) := am_r_istore d130_85
theorem r130_87  : am_Rn L xs d 130 87 ls st σ Q = am_la ls 0 (fun x => am_Rn L xs d 130 88 ls (x :: st) σ Q) := am_r_aload_n d130_87
theorem r130_88 {p : Nat} : am_Rn L xs d 130 88 ls (.ref p :: st) σ Q = am_fd σ p 6 32 (fun v => am_Rn L xs d 130 91 ls (v :: st) σ Q) := am_r_getfield d130_88 rfl
theorem r130_91  : am_Rn L xs d 130 91 ls st σ Q = am_li ls 4 (fun x => am_Rn L xs d 130 93 ls (.int x :: st) σ Q) := am_r_iload d130_91
theorem r130_93 {p : Nat} {i : Int32} : am_Rn L xs d 130 93 ls (.int i :: .ref p :: st) σ Q = am_ai 0 σ p i (fun x => am_Rn L xs d 130 94 ls (.int x :: st) σ Q) := am_r_iaload d130_93
theorem r130_94  : am_Rn L xs d 130 94 ls st σ Q = am_la ls 0 (fun x => am_Rn L xs d 130 95 ls (x :: st) σ Q) := am_r_aload_n d130_94
theorem r130_95 {p : Nat} : am_Rn L xs d 130 95 ls (.ref p :: st) σ Q = am_fd σ p 6 2 (fun v => am_Rn L xs d 130 98 ls (v :: st) σ Q) := am_r_getfield d130_95 rfl
theorem r130_98  : am_Rn L xs d 130 98 ls st σ Q = am_Rn L xs d 130 100 ls (.int 12 :: st) σ Q := am_r_bipush d130_98 (by decide)
theorem r130_100  : am_Rn L xs d 130 100 ls st σ Q = am_li ls 1 (fun x => am_Rn L xs d 130 101 ls (.int x :: st) σ Q) := am_r_iload_n d130_100
theorem r130_101 {a b : Int32} : am_Rn L xs d 130 101 ls (.int b :: .int a :: st) σ Q = am_Rn L xs d 130 102 ls (.int (a * b) :: st) σ Q := am_r_imul d130_101
theorem r130_102  : am_Rn L xs d 130 102 ls st σ Q = am_li ls 5 (fun x => am_Rn L xs d 130 104 ls (.int x :: st) σ Q) := am_r_iload d130_102
theorem r130_104 {a b : Int32} : am_Rn L xs d 130 104 ls (.int b :: .int a :: st) σ Q = am_Rn L xs d 130 105 ls (.int (a + b) :: st) σ Q := am_r_iadd d130_104
theorem r130_105 {p : Nat} {i : Int32} : am_Rn L xs d 130 105 ls (.int i :: .ref p :: st) σ Q = am_ai 0 σ p i (fun x => am_Rn L xs d 130 106 ls (.int x :: st) σ Q) := am_r_iaload d130_105
theorem r130_106 {a b : Int32} : am_Rn L xs d 130 106 ls (.int b :: .int a :: st) σ Q = if ¬ a = b then am_Rn L xs d 130 131 ls st σ Q else am_Rn L xs d 130 109 ls st σ Q := (am_r_icmp (t := 131) d130_106 (by decide)).trans (am_ite _ _ trivial (by simp only [am_cond, decide_eq_true_eq]))
theorem r130_109  : am_Rn L xs d 130 109 ls st σ Q = am_la ls 0 (fun x => am_Rn L xs d 130 110 ls (x :: st) σ Q) := am_r_aload_n d130_109
theorem r130_110 {p : Nat} : am_Rn L xs d 130 110 ls (.ref p :: st) σ Q = am_fd σ p 6 33 (fun v => am_Rn L xs d 130 113 ls (v :: st) σ Q) := am_r_getfield d130_110 rfl
theorem r130_113  : am_Rn L xs d 130 113 ls st σ Q = am_li ls 4 (fun x => am_Rn L xs d 130 115 ls (.int x :: st) σ Q) := am_r_iload d130_113
theorem r130_115 {p : Nat} {i : Int32} : am_Rn L xs d 130 115 ls (.int i :: .ref p :: st) σ Q = am_ai 0 σ p i (fun x => am_Rn L xs d 130 116 ls (.int x :: st) σ Q) := am_r_iaload d130_115
theorem r130_116  : am_Rn L xs d 130 116 ls st σ Q = am_la ls 0 (fun x => am_Rn L xs d 130 117 ls (x :: st) σ Q) := am_r_aload_n d130_116
theorem r130_117 {p : Nat} : am_Rn L xs d 130 117 ls (.ref p :: st) σ Q = am_fd σ p 6 3 (fun v => am_Rn L xs d 130 120 ls (v :: st) σ Q) := am_r_getfield d130_117 rfl
theorem r130_120  : am_Rn L xs d 130 120 ls st σ Q = am_Rn L xs d 130 122 ls (.int 12 :: st) σ Q := am_r_bipush d130_120 (by decide)
theorem r130_122  : am_Rn L xs d 130 122 ls st σ Q = am_li ls 1 (fun x => am_Rn L xs d 130 123 ls (.int x :: st) σ Q) := am_r_iload_n d130_122
theorem r130_123 {a b : Int32} : am_Rn L xs d 130 123 ls (.int b :: .int a :: st) σ Q = am_Rn L xs d 130 124 ls (.int (a * b) :: st) σ Q := am_r_imul d130_123
theorem r130_124  : am_Rn L xs d 130 124 ls st σ Q = am_li ls 5 (fun x => am_Rn L xs d 130 126 ls (.int x :: st) σ Q) := am_r_iload d130_124
theorem r130_126 {a b : Int32} : am_Rn L xs d 130 126 ls (.int b :: .int a :: st) σ Q = am_Rn L xs d 130 127 ls (.int (a + b) :: st) σ Q := am_r_iadd d130_126
theorem r130_127 {p : Nat} {i : Int32} : am_Rn L xs d 130 127 ls (.int i :: .ref p :: st) σ Q = am_ai 0 σ p i (fun x => am_Rn L xs d 130 128 ls (.int x :: st) σ Q) := am_r_iaload d130_127
theorem r130_128 {a b : Int32} : am_Rn L xs d 130 128 ls (.int b :: .int a :: st) σ Q = if a = b then am_Rn L xs d 130 133 ls st σ Q else am_Rn L xs d 130 131 ls st σ Q := (am_r_icmp (t := 133) d130_128 (by decide)).trans (am_ite _ _ trivial (by simp only [am_cond, decide_eq_true_eq]))
theorem r130_131  : am_Rn L xs d 130 131 ls st σ Q = am_Rn L xs d 130 132 ls (.int 0 :: st) σ Q := am_r_iconst d130_131 (by decide)
theorem r130_132 {v : Int32} (hv : v = 0 ∨ v = 1) : am_Rn L xs d 130 132 ls [.int v] σ Q = Q (some (.int v)) σ := am_r_zreturn d130_132 rfl hv
theorem r130_133  : am_Rn L xs d 130 133 ls st σ Q = am_Rn L xs d 130 134 ls (.int 0 :: st) σ Q := am_r_iconst d130_133 (by decide)
theorem r130_134 {x : Int32} : am_Rn L xs d 130 134 ls (.int x :: st) σ Q = (6 < ls.length ∧ am_Rn L xs d 130 136 (ls.set 6 (.int x)) st σ Q) := am_r_istore d130_134
theorem r130_136  : am_Rn L xs d 130 136 ls st σ Q = am_la ls 0 (fun x => am_Rn L xs d 130 137 ls (x :: st) σ Q) := am_r_aload_n d130_136
theorem r130_137  : am_Rn L xs d 130 137 ls st σ Q = am_li ls 4 (fun x => am_Rn L xs d 130 139 ls (.int x :: st) σ Q) := am_r_iload d130_137
theorem r130_139  : am_Rn L xs d 130 139 ls st σ Q = am_li ls 6 (fun x => am_Rn L xs d 130 141 ls (.int x :: st) σ Q) := am_r_iload d130_139
theorem r130_141 {a1 a2 : Value} {p : Nat} : am_Rn L xs (d + 1) 130 141 ls (a2 :: a1 :: .ref p :: st) σ Q = ((am_oc σ p = 6 ∧ st.length ≤ 4 ∧ am_ok a1 = true ∧ am_ok a2 = true) ∧ am_Call L xs d 131 [.ref p, a1, a2] σ (fun r σ1 => am_Rn L xs (d + 1) 130 144 ls (r.toList ++ st) σ1 Q)) := am_R_virtual2 d130_141 rfl ⟨by decide, rfl⟩ rfl rfl (by decide)
theorem r130_144 {a : Int32} : am_Rn L xs d 130 144 ls (.int a :: st) σ Q = if a < 0 then am_Rn L xs d 130 197 ls st σ Q else am_Rn L xs d 130 147 ls st σ Q := (am_r_if (t := 197) d130_144 (by decide)).trans (am_ite _ _ trivial (by simp only [am_cond, decide_eq_true_eq]))
theorem r130_147  : am_Rn L xs d 130 147 ls st σ Q = am_la ls 0 (fun x => am_Rn L xs d 130 148 ls (x :: st) σ Q) := am_r_aload_n d130_147
theorem r130_148  : am_Rn L xs d 130 148 ls st σ Q = am_li ls 1 (fun x => am_Rn L xs d 130 149 ls (.int x :: st) σ Q) := am_r_iload_n d130_148
theorem r130_149  : am_Rn L xs d 130 149 ls st σ Q = am_li ls 5 (fun x => am_Rn L xs d 130 151 ls (.int x :: st) σ Q) := am_r_iload d130_149
theorem r130_151  : am_Rn L xs d 130 151 ls st σ Q = am_li ls 6 (fun x => am_Rn L xs d 130 153 ls (.int x :: st) σ Q) := am_r_iload d130_151
theorem r130_153 {a1 a2 a3 : Value} {p : Nat} : am_Rn L xs (d + 1) 130 153 ls (a3 :: a2 :: a1 :: .ref p :: st) σ Q = ((am_oc σ p = 6 ∧ st.length ≤ 4 ∧ am_ok a1 = true ∧ am_ok a2 = true ∧ am_ok a3 = true) ∧ am_Call L xs d 92 [.ref p, a1, a2, a3] σ (fun r σ1 => am_Rn L xs (d + 1) 130 156 ls (r.toList ++ st) σ1 Q)) := am_R_virtual3 d130_153 rfl ⟨by decide, rfl⟩ rfl rfl (by decide)
theorem r130_156 {a : Int32} : am_Rn L xs d 130 156 ls (.int a :: st) σ Q = if a < 0 then am_Rn L xs d 130 197 ls st σ Q else am_Rn L xs d 130 159 ls st σ Q := (am_r_if (t := 197) d130_156 (by decide)).trans (am_ite _ _ trivial (by simp only [am_cond, decide_eq_true_eq]))
theorem r130_159  : am_Rn L xs d 130 159 ls st σ Q = am_la ls 0 (fun x => am_Rn L xs d 130 160 ls (x :: st) σ Q) := am_r_aload_n d130_159
theorem r130_160 {p : Nat} : am_Rn L xs d 130 160 ls (.ref p :: st) σ Q = am_fd σ p 6 36 (fun v => am_Rn L xs d 130 163 ls (v :: st) σ Q) := am_r_getfield d130_160 rfl
theorem r130_163  : am_Rn L xs d 130 163 ls st σ Q = am_li ls 2 (fun x => am_Rn L xs d 130 164 ls (.int x :: st) σ Q) := am_r_iload_n d130_163
theorem r130_164  : am_Rn L xs d 130 164 ls st σ Q = am_la ls 0 (fun x => am_Rn L xs d 130 165 ls (x :: st) σ Q) := am_r_aload_n d130_164
theorem r130_165  : am_Rn L xs d 130 165 ls st σ Q = am_li ls 4 (fun x => am_Rn L xs d 130 167 ls (.int x :: st) σ Q) := am_r_iload d130_165
theorem r130_167  : am_Rn L xs d 130 167 ls st σ Q = am_li ls 6 (fun x => am_Rn L xs d 130 169 ls (.int x :: st) σ Q) := am_r_iload d130_167
theorem r130_169 {a1 a2 : Value} {p : Nat} : am_Rn L xs (d + 1) 130 169 ls (a2 :: a1 :: .ref p :: st) σ Q = ((am_oc σ p = 6 ∧ st.length ≤ 4 ∧ am_ok a1 = true ∧ am_ok a2 = true) ∧ am_Call L xs d 131 [.ref p, a1, a2] σ (fun r σ1 => am_Rn L xs (d + 1) 130 172 ls (r.toList ++ st) σ1 Q)) := am_R_virtual2 d130_169 rfl ⟨by decide, rfl⟩ rfl rfl (by decide)
theorem r130_172 {p : Nat} {i x : Int32} : am_Rn L xs d 130 172 ls (.int x :: .int i :: .ref p :: st) σ Q = am_wi 0 σ p i x (fun σ1 => am_Rn L xs d 130 173 ls st σ1 Q) := am_r_iastore d130_172
theorem r130_173  : am_Rn L xs d 130 173 ls st σ Q = am_la ls 0 (fun x => am_Rn L xs d 130 174 ls (x :: st) σ Q) := am_r_aload_n d130_173
theorem r130_174 {p : Nat} : am_Rn L xs d 130 174 ls (.ref p :: st) σ Q = am_fd σ p 6 37 (fun v => am_Rn L xs d 130 177 ls (v :: st) σ Q) := am_r_getfield d130_174 rfl
theorem r130_177  : am_Rn L xs d 130 177 ls st σ Q = am_li ls 2 (fun x => am_Rn L xs d 130 178 ls (.int x :: st) σ Q) := am_r_iload_n d130_177
theorem r130_178  : am_Rn L xs d 130 178 ls st σ Q = am_la ls 0 (fun x => am_Rn L xs d 130 179 ls (x :: st) σ Q) := am_r_aload_n d130_178
theorem r130_179  : am_Rn L xs d 130 179 ls st σ Q = am_li ls 1 (fun x => am_Rn L xs d 130 180 ls (.int x :: st) σ Q) := am_r_iload_n d130_179
theorem r130_180  : am_Rn L xs d 130 180 ls st σ Q = am_li ls 5 (fun x => am_Rn L xs d 130 182 ls (.int x :: st) σ Q) := am_r_iload d130_180
theorem r130_182  : am_Rn L xs d 130 182 ls st σ Q = am_li ls 6 (fun x => am_Rn L xs d 130 184 ls (.int x :: st) σ Q) := am_r_iload d130_182
theorem r130_184 {a1 a2 a3 : Value} {p : Nat} : am_Rn L xs (d + 1) 130 184 ls (a3 :: a2 :: a1 :: .ref p :: st) σ Q = ((am_oc σ p = 6 ∧ st.length ≤ 4 ∧ am_ok a1 = true ∧ am_ok a2 = true ∧ am_ok a3 = true) ∧ am_Call L xs d 92 [.ref p, a1, a2, a3] σ (fun r σ1 => am_Rn L xs (d + 1) 130 187 ls (r.toList ++ st) σ1 Q)) := am_R_virtual3 d130_184 rfl ⟨by decide, rfl⟩ rfl rfl (by decide)
theorem r130_187 {p : Nat} {i x : Int32} : am_Rn L xs d 130 187 ls (.int x :: .int i :: .ref p :: st) σ Q = am_wi 0 σ p i x (fun σ1 => am_Rn L xs d 130 188 ls st σ1 Q) := am_r_iastore d130_187
theorem r130_188  : am_Rn L xs d 130 188 ls st σ Q = am_li ls 2 (fun x => am_Rn L xs d 130 191 (ls.set 2 (.int (x + 1))) st σ Q) := am_r_iinc d130_188 (by decide)
theorem r130_191  : am_Rn L xs d 130 191 ls st σ Q = am_li ls 6 (fun x => am_Rn L xs d 130 194 (ls.set 6 (.int (x + 1))) st σ Q) := am_r_iinc d130_191 (by decide)
theorem r130_194  : am_Rn L xs d 130 194 ls st σ Q = am_Rn L xs d 130 136 ls st σ Q := am_r_goto d130_194 (by decide)
theorem r130_197  : am_Rn L xs d 130 197 ls st σ Q = am_la ls 0 (fun x => am_Rn L xs d 130 198 ls (x :: st) σ Q) := am_r_aload_n d130_197
theorem r130_198  : am_Rn L xs d 130 198 ls st σ Q = am_li ls 4 (fun x => am_Rn L xs d 130 200 ls (.int x :: st) σ Q) := am_r_iload d130_198
theorem r130_200  : am_Rn L xs d 130 200 ls st σ Q = am_li ls 6 (fun x => am_Rn L xs d 130 202 ls (.int x :: st) σ Q) := am_r_iload d130_200
theorem r130_202 {a1 a2 : Value} {p : Nat} : am_Rn L xs (d + 1) 130 202 ls (a2 :: a1 :: .ref p :: st) σ Q = ((am_oc σ p = 6 ∧ st.length ≤ 4 ∧ am_ok a1 = true ∧ am_ok a2 = true) ∧ am_Call L xs d 131 [.ref p, a1, a2] σ (fun r σ1 => am_Rn L xs (d + 1) 130 205 ls (r.toList ++ st) σ1 Q)) := am_R_virtual2 d130_202 rfl ⟨by decide, rfl⟩ rfl rfl (by decide)
theorem r130_205 {a : Int32} : am_Rn L xs d 130 205 ls (.int a :: st) σ Q = if 0 ≤ a then am_Rn L xs d 130 220 ls st σ Q else am_Rn L xs d 130 208 ls st σ Q := (am_r_if (t := 220) d130_205 (by decide)).trans (am_ite _ _ trivial (by simp only [am_cond, decide_eq_true_eq]))
theorem r130_208  : am_Rn L xs d 130 208 ls st σ Q = am_la ls 0 (fun x => am_Rn L xs d 130 209 ls (x :: st) σ Q) := am_r_aload_n d130_208
theorem r130_209  : am_Rn L xs d 130 209 ls st σ Q = am_li ls 1 (fun x => am_Rn L xs d 130 210 ls (.int x :: st) σ Q) := am_r_iload_n d130_209
theorem r130_210  : am_Rn L xs d 130 210 ls st σ Q = am_li ls 5 (fun x => am_Rn L xs d 130 212 ls (.int x :: st) σ Q) := am_r_iload d130_210
theorem r130_212  : am_Rn L xs d 130 212 ls st σ Q = am_li ls 6 (fun x => am_Rn L xs d 130 214 ls (.int x :: st) σ Q) := am_r_iload d130_212
theorem r130_214 {a1 a2 a3 : Value} {p : Nat} : am_Rn L xs (d + 1) 130 214 ls (a3 :: a2 :: a1 :: .ref p :: st) σ Q = ((am_oc σ p = 6 ∧ st.length ≤ 4 ∧ am_ok a1 = true ∧ am_ok a2 = true ∧ am_ok a3 = true) ∧ am_Call L xs d 92 [.ref p, a1, a2, a3] σ (fun r σ1 => am_Rn L xs (d + 1) 130 217 ls (r.toList ++ st) σ1 Q)) := am_R_virtual3 d130_214 rfl ⟨by decide, rfl⟩ rfl rfl (by decide)
theorem r130_217 {a : Int32} : am_Rn L xs d 130 217 ls (.int a :: st) σ Q = if a < 0 then am_Rn L xs d 130 222 ls st σ Q else am_Rn L xs d 130 220 ls st σ Q := (am_r_if (t := 222) d130_217 (by decide)).trans (am_ite _ _ trivial (by simp only [am_cond, decide_eq_true_eq]))
theorem r130_220  : am_Rn L xs d 130 220 ls st σ Q = am_Rn L xs d 130 221 ls (.int 0 :: st) σ Q := am_r_iconst d130_220 (by decide)
theorem r130_221 {v : Int32} (hv : v = 0 ∨ v = 1) : am_Rn L xs d 130 221 ls [.int v] σ Q = Q (some (.int v)) σ := am_r_zreturn d130_221 rfl hv
theorem r130_222  : am_Rn L xs d 130 222 ls st σ Q = am_li ls 3 (fun x => am_Rn L xs d 130 225 (ls.set 3 (.int (x + 1))) st σ Q) := am_r_iinc d130_222 (by decide)
theorem r130_225  : am_Rn L xs d 130 225 ls st σ Q = am_Rn L xs d 130 66 ls st σ Q := am_r_goto d130_225 (by decide)
theorem r130_228  : am_Rn L xs d 130 228 ls st σ Q = am_Rn L xs d 130 229 ls (.int 1 :: st) σ Q := am_r_iconst d130_228 (by decide)
theorem r130_229 {v : Int32} (hv : v = 0 ∨ v = 1) : am_Rn L xs d 130 229 ls [.int v] σ Q = Q (some (.int v)) σ := am_r_zreturn d130_229 rfl hv
theorem d131_0 : decode (pg_code 131) 0 = .ok (.iload_n 2, 1) := by decide +kernel
theorem d131_1 : decode (pg_code 131) 1 = .ok (.istore_n 3, 1) := by decide +kernel
theorem d131_2 : decode (pg_code 131) 2 = .ok (.iconst 0, 1) := by decide +kernel
theorem d131_3 : decode (pg_code 131) 3 = .ok (.istore 4, 2) := by decide +kernel
theorem d131_5 : decode (pg_code 131) 5 = .ok (.iload 4, 2) := by decide +kernel
theorem d131_7 : decode (pg_code 131) 7 = .ok (.aload_n 0, 1) := by decide +kernel
theorem d131_8 : decode (pg_code 131) 8 = .ok (.getfield 197, 3) := by decide +kernel
theorem d131_11 : decode (pg_code 131) 11 = .ok (.if_icmp .ge 40, 3) := by decide +kernel
theorem d131_14 : decode (pg_code 131) 14 = .ok (.aload_n 0, 1) := by decide +kernel
theorem d131_15 : decode (pg_code 131) 15 = .ok (.getfield 89, 3) := by decide +kernel
theorem d131_18 : decode (pg_code 131) 18 = .ok (.aload_n 0, 1) := by decide +kernel
theorem d131_19 : decode (pg_code 131) 19 = .ok (.getfield 98, 3) := by decide +kernel
theorem d131_22 : decode (pg_code 131) 22 = .ok (.iload 4, 2) := by decide +kernel
theorem d131_24 : decode (pg_code 131) 24 = .ok (.iaload, 1) := by decide +kernel
theorem d131_25 : decode (pg_code 131) 25 = .ok (.iaload, 1) := by decide +kernel
theorem d131_26 : decode (pg_code 131) 26 = .ok (.iload_n 1, 1) := by decide +kernel
theorem d131_27 : decode (pg_code 131) 27 = .ok (.if_icmp .ne 18, 3) := by decide +kernel
theorem d131_30 : decode (pg_code 131) 30 = .ok (.iload_n 3, 1) := by decide +kernel
theorem d131_31 : decode (pg_code 131) 31 = .ok (.ifCond .ne 11, 3) := by decide +kernel
theorem d131_34 : decode (pg_code 131) 34 = .ok (.aload_n 0, 1) := by decide +kernel
theorem d131_35 : decode (pg_code 131) 35 = .ok (.getfield 98, 3) := by decide +kernel
theorem d131_38 : decode (pg_code 131) 38 = .ok (.iload 4, 2) := by decide +kernel
theorem d131_40 : decode (pg_code 131) 40 = .ok (.iaload, 1) := by decide +kernel
theorem d131_41 : decode (pg_code 131) 41 = .ok (.ireturn, 1) := by decide +kernel
theorem d131_42 : decode (pg_code 131) 42 = .ok (.iinc 3 (-1), 3) := by decide +kernel
theorem d131_45 : decode (pg_code 131) 45 = .ok (.iinc 4 1, 3) := by decide +kernel
theorem d131_48 : decode (pg_code 131) 48 = .ok (.goto (-43), 3) := by decide +kernel
theorem d131_51 : decode (pg_code 131) 51 = .ok (.iconst (-1), 1) := by decide +kernel
theorem d131_52 : decode (pg_code 131) 52 = .ok (.ireturn, 1) := by decide +kernel
theorem e131 {b1 b2 b3 : Value} : am_Call L xs d 131 [b1, b2, b3] σ Q = am_Rn L xs d 131 0 [b1, b2, b3, .retAddr 0, .retAddr 0] [] σ Q := rfl
theorem r131_0  : am_Rn L xs d 131 0 ls st σ Q = am_li ls 2 (fun x => am_Rn L xs d 131 1 ls (.int x :: st) σ Q) := am_r_iload_n d131_0
theorem r131_1 {x : Int32} : am_Rn L xs d 131 1 ls (.int x :: st) σ Q = (3 < ls.length ∧ am_Rn L xs d 131 2 (ls.set 3 (.int x)) st σ Q) := am_r_istore_n d131_1
theorem r131_2  : am_Rn L xs d 131 2 ls st σ Q = am_Rn L xs d 131 3 ls (.int 0 :: st) σ Q := am_r_iconst d131_2 (by decide)
theorem r131_3 {x : Int32} : am_Rn L xs d 131 3 ls (.int x :: st) σ Q = (4 < ls.length ∧ am_Rn L xs d 131 5 (ls.set 4 (.int x)) st σ Q) := am_r_istore d131_3
theorem r131_5  : am_Rn L xs d 131 5 ls st σ Q = am_li ls 4 (fun x => am_Rn L xs d 131 7 ls (.int x :: st) σ Q) := am_r_iload d131_5
theorem r131_7  : am_Rn L xs d 131 7 ls st σ Q = am_la ls 0 (fun x => am_Rn L xs d 131 8 ls (x :: st) σ Q) := am_r_aload_n d131_7
theorem r131_8 {p : Nat} : am_Rn L xs d 131 8 ls (.ref p :: st) σ Q = am_fd σ p 6 35 (fun v => am_Rn L xs d 131 11 ls (v :: st) σ Q) := am_r_getfield d131_8 rfl
theorem r131_11 {a b : Int32} : am_Rn L xs d 131 11 ls (.int b :: .int a :: st) σ Q = if b ≤ a then am_Rn L xs d 131 51 ls st σ Q else am_Rn L xs d 131 14 ls st σ Q := (am_r_icmp (t := 51) d131_11 (by decide)).trans (am_ite _ _ trivial (by simp only [am_cond, decide_eq_true_eq]))
theorem r131_14  : am_Rn L xs d 131 14 ls st σ Q = am_la ls 0 (fun x => am_Rn L xs d 131 15 ls (x :: st) σ Q) := am_r_aload_n d131_14
theorem r131_15 {p : Nat} : am_Rn L xs d 131 15 ls (.ref p :: st) σ Q = am_fd σ p 6 31 (fun v => am_Rn L xs d 131 18 ls (v :: st) σ Q) := am_r_getfield d131_15 rfl
theorem r131_18  : am_Rn L xs d 131 18 ls st σ Q = am_la ls 0 (fun x => am_Rn L xs d 131 19 ls (x :: st) σ Q) := am_r_aload_n d131_18
theorem r131_19 {p : Nat} : am_Rn L xs d 131 19 ls (.ref p :: st) σ Q = am_fd σ p 6 34 (fun v => am_Rn L xs d 131 22 ls (v :: st) σ Q) := am_r_getfield d131_19 rfl
theorem r131_22  : am_Rn L xs d 131 22 ls st σ Q = am_li ls 4 (fun x => am_Rn L xs d 131 24 ls (.int x :: st) σ Q) := am_r_iload d131_22
theorem r131_24 {p : Nat} {i : Int32} : am_Rn L xs d 131 24 ls (.int i :: .ref p :: st) σ Q = am_ai 0 σ p i (fun x => am_Rn L xs d 131 25 ls (.int x :: st) σ Q) := am_r_iaload d131_24
theorem r131_25 {p : Nat} {i : Int32} : am_Rn L xs d 131 25 ls (.int i :: .ref p :: st) σ Q = am_ai 0 σ p i (fun x => am_Rn L xs d 131 26 ls (.int x :: st) σ Q) := am_r_iaload d131_25
theorem r131_26  : am_Rn L xs d 131 26 ls st σ Q = am_li ls 1 (fun x => am_Rn L xs d 131 27 ls (.int x :: st) σ Q) := am_r_iload_n d131_26
theorem r131_27 {a b : Int32} : am_Rn L xs d 131 27 ls (.int b :: .int a :: st) σ Q = if ¬ a = b then am_Rn L xs d 131 45 ls st σ Q else am_Rn L xs d 131 30 ls st σ Q := (am_r_icmp (t := 45) d131_27 (by decide)).trans (am_ite _ _ trivial (by simp only [am_cond, decide_eq_true_eq]))
theorem r131_30  : am_Rn L xs d 131 30 ls st σ Q = am_li ls 3 (fun x => am_Rn L xs d 131 31 ls (.int x :: st) σ Q) := am_r_iload_n d131_30
theorem r131_31 {a : Int32} : am_Rn L xs d 131 31 ls (.int a :: st) σ Q = if ¬ a = 0 then am_Rn L xs d 131 42 ls st σ Q else am_Rn L xs d 131 34 ls st σ Q := (am_r_if (t := 42) d131_31 (by decide)).trans (am_ite _ _ trivial (by simp only [am_cond, decide_eq_true_eq]))
theorem r131_34  : am_Rn L xs d 131 34 ls st σ Q = am_la ls 0 (fun x => am_Rn L xs d 131 35 ls (x :: st) σ Q) := am_r_aload_n d131_34
theorem r131_35 {p : Nat} : am_Rn L xs d 131 35 ls (.ref p :: st) σ Q = am_fd σ p 6 34 (fun v => am_Rn L xs d 131 38 ls (v :: st) σ Q) := am_r_getfield d131_35 rfl
theorem r131_38  : am_Rn L xs d 131 38 ls st σ Q = am_li ls 4 (fun x => am_Rn L xs d 131 40 ls (.int x :: st) σ Q) := am_r_iload d131_38
theorem r131_40 {p : Nat} {i : Int32} : am_Rn L xs d 131 40 ls (.int i :: .ref p :: st) σ Q = am_ai 0 σ p i (fun x => am_Rn L xs d 131 41 ls (.int x :: st) σ Q) := am_r_iaload d131_40
theorem r131_41 {v : Int32} : am_Rn L xs d 131 41 ls [.int v] σ Q = Q (some (.int v)) σ := am_r_ireturn d131_41 rfl
theorem r131_42  : am_Rn L xs d 131 42 ls st σ Q = am_li ls 3 (fun x => am_Rn L xs d 131 45 (ls.set 3 (.int (x + (-1)))) st σ Q) := am_r_iinc d131_42 (by decide)
theorem r131_45  : am_Rn L xs d 131 45 ls st σ Q = am_li ls 4 (fun x => am_Rn L xs d 131 48 (ls.set 4 (.int (x + 1))) st σ Q) := am_r_iinc d131_45 (by decide)
theorem r131_48  : am_Rn L xs d 131 48 ls st σ Q = am_Rn L xs d 131 5 ls st σ Q := am_r_goto d131_48 (by decide)
theorem r131_51  : am_Rn L xs d 131 51 ls st σ Q = am_Rn L xs d 131 52 ls (.int (-1) :: st) σ Q := am_r_iconst d131_51 (by decide)
theorem r131_52 {v : Int32} : am_Rn L xs d 131 52 ls [.int v] σ Q = Q (some (.int v)) σ := am_r_ireturn d131_52 rfl
end
