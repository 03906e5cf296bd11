/-! Rows of the program's instructions, written by program (wip/gen/gen_rows.py) -/
section
variable {L : Nat} {xs : Nat → Int32} {d : Nat} {ls st : List Value} {σ : am_S} {Q : Option Value → am_S → Prop}
theorem d2_0 : decode (pg_code 2) 0 = .ok (.iconst 0, 1) := by decide +kernel
theorem d2_1 : decode (pg_code 2) 1 = .ok (.istore_n 2, 1) := by decide +kernel
theorem d2_2 : decode (pg_code 2) 2 = .ok (.aload_n 0, 1) := by decide +kernel
theorem d2_3 : decode (pg_code 2) 3 = .ok (.arraylength, 1) := by decide +kernel
theorem d2_4 : decode (pg_code 2) 4 = .ok (.istore_n 3, 1) := by decide +kernel
theorem d2_5 : decode (pg_code 2) 5 = .ok (.iload_n 2, 1) := by decide +kernel
theorem d2_6 : decode (pg_code 2) 6 = .ok (.iload_n 3, 1) := by decide +kernel
theorem d2_7 : decode (pg_code 2) 7 = .ok (.if_icmp .ge 13, 3) := by decide +kernel
theorem d2_10 : decode (pg_code 2) 10 = .ok (.aload_n 0, 1) := by decide +kernel
theorem d2_11 : decode (pg_code 2) 11 = .ok (.iload_n 2, 1) := by decide +kernel
theorem d2_12 : decode (pg_code 2) 12 = .ok (.iload_n 1, 1) := by decide +kernel
theorem d2_13 : decode (pg_code 2) 13 = .ok (.iastore, 1) := by decide +kernel
theorem d2_14 : decode (pg_code 2) 14 = .ok (.iinc 2 1, 3) := by decide +kernel
theorem d2_17 : decode (pg_code 2) 17 = .ok (.goto (-12), 3) := by decide +kernel
theorem d2_20 : decode (pg_code 2) 20 = .ok (.return_, 1) := by decide +kernel
theorem e2 {b1 b2 : Value} : am_Call L xs d 2 [b1, b2] σ Q = am_Rn L xs d 2 0 [b1, b2, .retAddr 0, .retAddr 0] [] σ Q := rfl
theorem r2_0  : am_Rn L xs d 2 0 ls st σ Q = am_Rn L xs d 2 1 ls (.int 0 :: st) σ Q := am_r_iconst d2_0 (by decide)
theorem r2_1 {x : Int32} : am_Rn L xs d 2 1 ls (.int x :: st) σ Q = (2 < ls.length ∧ am_Rn L xs d 2 2 (ls.set 2 (.int x)) st σ Q) := am_r_istore_n d2_1
theorem r2_2  : am_Rn L xs d 2 2 ls st σ Q = am_la ls 0 (fun x => am_Rn L xs d 2 3 ls (x :: st) σ Q) := am_r_aload_n d2_2
theorem r2_3 {p : Nat} : am_Rn L xs d 2 3 ls (.ref p :: st) σ Q = am_ln σ p (fun x => am_Rn L xs d 2 4 ls (.int x :: st) σ Q) := am_r_arraylength d2_3
theorem r2_4 {x : Int32} : am_Rn L xs d 2 4 ls (.int x :: st) σ Q = (3 < ls.length ∧ am_Rn L xs d 2 5 (ls.set 3 (.int x)) st σ Q) := am_r_istore_n d2_4
theorem r2_5  : am_Rn L xs d 2 5 ls st σ Q = am_li ls 2 (fun x => am_Rn L xs d 2 6 ls (.int x :: st) σ Q) := am_r_iload_n d2_5
theorem r2_6  : am_Rn L xs d 2 6 ls st σ Q = am_li ls 3 (fun x => am_Rn L xs d 2 7 ls (.int x :: st) σ Q) := am_r_iload_n d2_6
theorem r2_7 {a b : Int32} : am_Rn L xs d 2 7 ls (.int b :: .int a :: st) σ Q = if b ≤ a then am_Rn L xs d 2 20 ls st σ Q else am_Rn L xs d 2 10 ls st σ Q := (am_r_icmp (t := 20) d2_7 (by decide)).trans (am_ite _ _ trivial (by simp only [am_cond, decide_eq_true_eq]))
theorem r2_10  : am_Rn L xs d 2 10 ls st σ Q = am_la ls 0 (fun x => am_Rn L xs d 2 11 ls (x :: st) σ Q) := am_r_aload_n d2_10
theorem r2_11  : am_Rn L xs d 2 11 ls st σ Q = am_li ls 2 (fun x => am_Rn L xs d 2 12 ls (.int x :: st) σ Q) := am_r_iload_n d2_11
theorem r2_12  : am_Rn L xs d 2 12 ls st σ Q = am_li ls 1 (fun x => am_Rn L xs d 2 13 ls (.int x :: st) σ Q) := am_r_iload_n d2_12
theorem r2_13 {p : Nat} {i x : Int32} : am_Rn L xs d 2 13 ls (.int x :: .int i :: .ref p :: st) σ Q = am_wi 0 σ p i x (fun σ1 => am_Rn L xs d 2 14 ls st σ1 Q) := am_r_iastore d2_13
theorem r2_14  : am_Rn L xs d 2 14 ls st σ Q = am_li ls 2 (fun x => am_Rn L xs d 2 17 (ls.set 2 (.int (x + 1))) st σ Q) := am_r_iinc d2_14 (by decide)
theorem r2_17  : am_Rn L xs d 2 17 ls st σ Q = am_Rn L xs d 2 5 ls st σ Q := am_r_goto d2_17 (by decide)
theorem r2_20  : am_Rn L xs d 2 20 ls [] σ Q = Q none σ := am_r_return d2_20 rfl
theorem d36_0 : decode (pg_code 36) 0 = .ok (.iload_n 0, 1) := by decide +kernel
theorem d36_1 : decode (pg_code 36) 1 = .ok (.iload_n 0, 1) := by decide +kernel
theorem d36_2 : decode (pg_code 36) 2 = .ok (.iconst 1, 1) := by decide +kernel
theorem d36_3 : decode (pg_code 36) 3 = .ok (.iushr, 1) := by decide +kernel
theorem d36_4 : decode (pg_code 36) 4 = .ok (.ldc_w 265, 3) := by decide +kernel
theorem d36_7 : decode (pg_code 36) 7 = .ok (.iand, 1) := by decide +kernel
theorem d36_8 : decode (pg_code 36) 8 = .ok (.isub, 1) := by decide +kernel
theorem d36_9 : decode (pg_code 36) 9 = .ok (.istore_n 0, 1) := by decide +kernel
theorem d36_10 : decode (pg_code 36) 10 = .ok (.iload_n 0, 1) := by decide +kernel
theorem d36_11 : decode (pg_code 36) 11 = .ok (.ldc_w 266, 3) := by decide +kernel
theorem d36_14 : decode (pg_code 36) 14 = .ok (.iand, 1) := by decide +kernel
theorem d36_15 : decode (pg_code 36) 15 = .ok (.iload_n 0, 1) := by decide +kernel
theorem d36_16 : decode (pg_code 36) 16 = .ok (.iconst 2, 1) := by decide +kernel
theorem d36_17 : decode (pg_code 36) 17 = .ok (.iushr, 1) := by decide +kernel
theorem d36_18 : decode (pg_code 36) 18 = .ok (.ldc_w 266, 3) := by decide +kernel
theorem d36_21 : decode (pg_code 36) 21 = .ok (.iand, 1) := by decide +kernel
theorem d36_22 : decode (pg_code 36) 22 = .ok (.iadd, 1) := by decide +kernel
theorem d36_23 : decode (pg_code 36) 23 = .ok (.istore_n 0, 1) := by decide +kernel
theorem d36_24 : decode (pg_code 36) 24 = .ok (.iload_n 0, 1) := by decide +kernel
theorem d36_25 : decode (pg_code 36) 25 = .ok (.iload_n 0, 1) := by decide +kernel
theorem d36_26 : decode (pg_code 36) 26 = .ok (.iconst 4, 1) := by decide +kernel
theorem d36_27 : decode (pg_code 36) 27 = .ok (.iushr, 1) := by decide +kernel
theorem d36_28 : decode (pg_code 36) 28 = .ok (.iadd, 1) := by decide +kernel
theorem d36_29 : decode (pg_code 36) 29 = .ok (.ldc_w 267, 3) := by decide +kernel
theorem d36_32 : decode (pg_code 36) 32 = .ok (.iand, 1) := by decide +kernel
theorem d36_33 : decode (pg_code 36) 33 = .ok (.istore_n 0, 1) := by decide +kernel
theorem d36_34 : decode (pg_code 36) 34 = .ok (.iload_n 0, 1) := by decide +kernel
theorem d36_35 : decode (pg_code 36) 35 = .ok (.iload_n 0, 1) := by decide +kernel
theorem d36_36 : decode (pg_code 36) 36 = .ok (.bipush 8, 2) := by decide +kernel
theorem d36_38 : decode (pg_code 36) 38 = .ok (.iushr, 1) := by decide +kernel
theorem d36_39 : decode (pg_code 36) 39 = .ok (.iadd, 1) := by decide +kernel
theorem d36_40 : decode (pg_code 36) 40 = .ok (.istore_n 0, 1) := by decide +kernel
theorem d36_41 : decode (pg_code 36) 41 = .ok (.iload_n 0, 1) := by decide +kernel
theorem d36_42 : decode (pg_code 36) 42 = .ok (.iload_n 0, 1) := by decide +kernel
theorem d36_43 : decode (pg_code 36) 43 = .ok (.bipush 16, 2) := by decide +kernel
theorem d36_45 : decode (pg_code 36) 45 = .ok (.iushr, 1) := by decide +kernel
theorem d36_46 : decode (pg_code 36) 46 = .ok (.iadd, 1) := by decide +kernel
theorem d36_47 : decode (pg_code 36) 47 = .ok (.istore_n 0, 1) := by decide +kernel
theorem d36_48 : decode (pg_code 36) 48 = .ok (.iload_n 0, 1) := by decide +kernel
theorem d36_49 : decode (pg_code 36) 49 = .ok (.bipush 63, 2) := by decide +kernel
theorem d36_51 : decode (pg_code 36) 51 = .ok (.iand, 1) := by decide +kernel
theorem d36_52 : decode (pg_code 36) 52 = .ok (.ireturn, 1) := by decide +kernel
theorem e36 {b1 : Value} : am_Call L xs d 36 [b1] σ Q = am_Rn L xs d 36 0 [b1] [] σ Q := rfl
theorem r36_0  : am_Rn L xs d 36 0 ls st σ Q = am_li ls 0 (fun x => am_Rn L xs d 36 1 ls (.int x :: st) σ Q) := am_r_iload_n d36_0
theorem r36_1  : am_Rn L xs d 36 1 ls st σ Q = am_li ls 0 (fun x => am_Rn L xs d 36 2 ls (.int x :: st) σ Q) := am_r_iload_n d36_1
theorem r36_2  : am_Rn L xs d 36 2 ls st σ Q = am_Rn L xs d 36 3 ls (.int 1 :: st) σ Q := am_r_iconst d36_2 (by decide)
theorem r36_3 {a b : Int32} : am_Rn L xs d 36 3 ls (.int b :: .int a :: st) σ Q = am_Rn L xs d 36 4 ls (.int ((a.toUInt32 >>> (b.toUInt32 &&& Int32.toUInt32 31)).toInt32) :: st) σ Q := am_r_iushr d36_3
theorem r36_4  : am_Rn L xs d 36 4 ls st σ Q = am_Rn L xs d 36 7 ls (.int 1431655765 :: st) σ Q := am_r_ldc_w d36_4 rfl
theorem r36_7 {a b : Int32} : am_Rn L xs d 36 7 ls (.int b :: .int a :: st) σ Q = am_Rn L xs d 36 8 ls (.int (a &&& b) :: st) σ Q := am_r_iand d36_7
theorem r36_8 {a b : Int32} : am_Rn L xs d 36 8 ls (.int b :: .int a :: st) σ Q = am_Rn L xs d 36 9 ls (.int (a - b) :: st) σ Q := am_r_isub d36_8
theorem r36_9 {x : Int32} : am_Rn L xs d 36 9 ls (.int x :: st) σ Q = (0 < ls.length ∧ am_Rn L xs d 36 10 (ls.set 0 (.int x)) st σ Q) := am_r_istore_n d36_9
theorem r36_10  : am_Rn L xs d 36 10 ls st σ Q = am_li ls 0 (fun x => am_Rn L xs d 36 11 ls (.int x :: st) σ Q) := am_r_iload_n d36_10
theorem r36_11  : am_Rn L xs d 36 11 ls st σ Q = am_Rn L xs d 36 14 ls (.int 858993459 :: st) σ Q := am_r_ldc_w d36_11 rfl
theorem r36_14 {a b : Int32} : am_Rn L xs d 36 14 ls (.int b :: .int a :: st) σ Q = am_Rn L xs d 36 15 ls (.int (a &&& b) :: st) σ Q := am_r_iand d36_14
theorem r36_15  : am_Rn L xs d 36 15 ls st σ Q = am_li ls 0 (fun x => am_Rn L xs d 36 16 ls (.int x :: st) σ Q) := am_r_iload_n d36_15
theorem r36_16  : am_Rn L xs d 36 16 ls st σ Q = am_Rn L xs d 36 17 ls (.int 2 :: st) σ Q := am_r_iconst d36_16 (by decide)
theorem r36_17 {a b : Int32} : am_Rn L xs d 36 17 ls (.int b :: .int a :: st) σ Q = am_Rn L xs d 36 18 ls (.int ((a.toUInt32 >>> (b.toUInt32 &&& Int32.toUInt32 31)).toInt32) :: st) σ Q := am_r_iushr d36_17
theorem r36_18  : am_Rn L xs d 36 18 ls st σ Q = am_Rn L xs d 36 21 ls (.int 858993459 :: st) σ Q := am_r_ldc_w d36_18 rfl
theorem r36_21 {a b : Int32} : am_Rn L xs d 36 21 ls (.int b :: .int a :: st) σ Q = am_Rn L xs d 36 22 ls (.int (a &&& b) :: st) σ Q := am_r_iand d36_21
theorem r36_22 {a b : Int32} : am_Rn L xs d 36 22 ls (.int b :: .int a :: st) σ Q = am_Rn L xs d 36 23 ls (.int (a + b) :: st) σ Q := am_r_iadd d36_22
theorem r36_23 {x : Int32} : am_Rn L xs d 36 23 ls (.int x :: st) σ Q = (0 < ls.length ∧ am_Rn L xs d 36 24 (ls.set 0 (.int x)) st σ Q) := am_r_istore_n d36_23
theorem r36_24  : am_Rn L xs d 36 24 ls st σ Q = am_li ls 0 (fun x => am_Rn L xs d 36 25 ls (.int x :: st) σ Q) := am_r_iload_n d36_24
theorem r36_25  : am_Rn L xs d 36 25 ls st σ Q = am_li ls 0 (fun x => am_Rn L xs d 36 26 ls (.int x :: st) σ Q) := am_r_iload_n d36_25
theorem r36_26  : am_Rn L xs d 36 26 ls st σ Q = am_Rn L xs d 36 27 ls (.int 4 :: st) σ Q := am_r_iconst d36_26 (by decide)
theorem r36_27 {a b : Int32} : am_Rn L xs d 36 27 ls (.int b :: .int a :: st) σ Q = am_Rn L xs d 36 28 ls (.int ((a.toUInt32 >>> (b.toUInt32 &&& Int32.toUInt32 31)).toInt32) :: st) σ Q := am_r_iushr d36_27
theorem r36_28 {a b : Int32} : am_Rn L xs d 36 28 ls (.int b :: .int a :: st) σ Q = am_Rn L xs d 36 29 ls (.int (a + b) :: st) σ Q := am_r_iadd d36_28
theorem r36_29  : am_Rn L xs d 36 29 ls st σ Q = am_Rn L xs d 36 32 ls (.int 252645135 :: st) σ Q := am_r_ldc_w d36_29 rfl
theorem r36_32 {a b : Int32} : am_Rn L xs d 36 32 ls (.int b :: .int a :: st) σ Q = am_Rn L xs d 36 33 ls (.int (a &&& b) :: st) σ Q := am_r_iand d36_32
theorem r36_33 {x : Int32} : am_Rn L xs d 36 33 ls (.int x :: st) σ Q = (0 < ls.length ∧ am_Rn L xs d 36 34 (ls.set 0 (.int x)) st σ Q) := am_r_istore_n d36_33
theorem r36_34  : am_Rn L xs d 36 34 ls st σ Q = am_li ls 0 (fun x => am_Rn L xs d 36 35 ls (.int x :: st) σ Q) := am_r_iload_n d36_34
theorem r36_35  : am_Rn L xs d 36 35 ls st σ Q = am_li ls 0 (fun x => am_Rn L xs d 36 36 ls (.int x :: st) σ Q) := am_r_iload_n d36_35
theorem r36_36  : am_Rn L xs d 36 36 ls st σ Q = am_Rn L xs d 36 38 ls (.int 8 :: st) σ Q := am_r_bipush d36_36 (by decide)
theorem r36_38 {a b : Int32} : am_Rn L xs d 36 38 ls (.int b :: .int a :: st) σ Q = am_Rn L xs d 36 39 ls (.int ((a.toUInt32 >>> (b.toUInt32 &&& Int32.toUInt32 31)).toInt32) :: st) σ Q := am_r_iushr d36_38
theorem r36_39 {a b : Int32} : am_Rn L xs d 36 39 ls (.int b :: .int a :: st) σ Q = am_Rn L xs d 36 40 ls (.int (a + b) :: st) σ Q := am_r_iadd d36_39
theorem r36_40 {x : Int32} : am_Rn L xs d 36 40 ls (.int x :: st) σ Q = (0 < ls.length ∧ am_Rn L xs d 36 41 (ls.set 0 (.int x)) st σ Q) := am_r_istore_n d36_40
theorem r36_41  : am_Rn L xs d 36 41 ls st σ Q = am_li ls 0 (fun x => am_Rn L xs d 36 42 ls (.int x :: st) σ Q) := am_r_iload_n d36_41
theorem r36_42  : am_Rn L xs d 36 42 ls st σ Q = am_li ls 0 (fun x => am_Rn L xs d 36 43 ls (.int x :: st) σ Q) := am_r_iload_n d36_42
theorem r36_43  : am_Rn L xs d 36 43 ls st σ Q = am_Rn L xs d 36 45 ls (.int 16 :: st) σ Q := am_r_bipush d36_43 (by decide)
theorem r36_45 {a b : Int32} : am_Rn L xs d 36 45 ls (.int b :: .int a :: st) σ Q = am_Rn L xs d 36 46 ls (.int ((a.toUInt32 >>> (b.toUInt32 &&& Int32.toUInt32 31)).toInt32) :: st) σ Q := am_r_iushr d36_45
theorem r36_46 {a b : Int32} : am_Rn L xs d 36 46 ls (.int b :: .int a :: st) σ Q = am_Rn L xs d 36 47 ls (.int (a + b) :: st) σ Q := am_r_iadd d36_46
theorem r36_47 {x : Int32} : am_Rn L xs d 36 47 ls (.int x :: st) σ Q = (0 < ls.length ∧ am_Rn L xs d 36 48 (ls.set 0 (.int x)) st σ Q) := am_r_istore_n d36_47
theorem r36_48  : am_Rn L xs d 36 48 ls st σ Q = am_li ls 0 (fun x => am_Rn L xs d 36 49 ls (.int x :: st) σ Q) := am_r_iload_n d36_48
theorem r36_49  : am_Rn L xs d 36 49 ls st σ Q = am_Rn L xs d 36 51 ls (.int 63 :: st) σ Q := am_r_bipush d36_49 (by decide)
theorem r36_51 {a b : Int32} : am_Rn L xs d 36 51 ls (.int b :: .int a :: st) σ Q = am_Rn L xs d 36 52 ls (.int (a &&& b) :: st) σ Q := am_r_iand d36_51
theorem r36_52 {v : Int32} : am_Rn L xs d 36 52 ls [.int v] σ Q = Q (some (.int v)) σ := am_r_ireturn d36_52 rfl
end
