/-! Rows of the program's instructions, written by program (wip/gen/gen_rows.py) -/
section
variable {L : Nat} {xs : Nat → Int32} {d : Nat} {ls st : List Value} {σ : am_S} {Q : Option Value → am_S → Prop}
theorem d9_0 : decode (pg_code 9) 0 = .ok (.iload_n 1, 1) := by decide +kernel
theorem d9_1 : decode (pg_code 9) 1 = .ok (.ifCond .lt 26, 3) := by decide +kernel
theorem d9_4 : decode (pg_code 9) 4 = .ok (.iload_n 1, 1) := by decide +kernel
theorem d9_5 : decode (pg_code 9) 5 = .ok (.aload_n 0, 1) := by decide +kernel
theorem d9_6 : decode (pg_code 9) 6 = .ok (.getfield 30, 3) := by decide +kernel
theorem d9_9 : decode (pg_code 9) 9 = .ok (.if_icmp .ge 18, 3) := by decide +kernel
theorem d9_12 : decode (pg_code 9) 12 = .ok (.aload_n 0, 1) := by decide +kernel
theorem d9_13 : decode (pg_code 9) 13 = .ok (.getfield 9, 3) := by decide +kernel
theorem d9_16 : decode (pg_code 9) 16 = .ok (.iload_n 1, 1) := by decide +kernel
theorem d9_17 : decode (pg_code 9) 17 = .ok (.iaload, 1) := by decide +kernel
theorem d9_18 : decode (pg_code 9) 18 = .ok (.bipush (-2), 2) := by decide +kernel
theorem d9_20 : decode (pg_code 9) 20 = .ok (.if_icmp .eq 7, 3) := by decide +kernel
theorem d9_23 : decode (pg_code 9) 23 = .ok (.iconst 1, 1) := by decide +kernel
theorem d9_24 : decode (pg_code 9) 24 = .ok (.goto 4, 3) := by decide +kernel
theorem d9_27 : decode (pg_code 9) 27 = .ok (.iconst 0, 1) := by decide +kernel
theorem d9_28 : decode (pg_code 9) 28 = .ok (.ireturn, 1) := by decide +kernel
theorem e9 {b1 b2 : Value} : am_Call L xs d 9 [b1, b2] σ Q = am_Rn L xs d 9 0 [b1, b2] [] σ Q := rfl
theorem r9_0  : am_Rn L xs d 9 0 ls st σ Q = am_li ls 1 (fun x => am_Rn L xs d 9 1 ls (.int x :: st) σ Q) := am_r_iload_n d9_0
theorem r9_1 {a : Int32} : am_Rn L xs d 9 1 ls (.int a :: st) σ Q = if a < 0 then am_Rn L xs d 9 27 ls st σ Q else am_Rn L xs d 9 4 ls st σ Q := (am_r_if (t := 27) d9_1 (by decide)).trans (am_ite _ _ trivial (by simp only [am_cond, decide_eq_true_eq]))
theorem r9_4  : am_Rn L xs d 9 4 ls st σ Q = am_li ls 1 (fun x => am_Rn L xs d 9 5 ls (.int x :: st) σ Q) := am_r_iload_n d9_4
theorem r9_5  : am_Rn L xs d 9 5 ls st σ Q = am_la ls 0 (fun x => am_Rn L xs d 9 6 ls (x :: st) σ Q) := am_r_aload_n d9_5
theorem r9_6 {p : Nat} : am_Rn L xs d 9 6 ls (.ref p :: st) σ Q = am_fd σ p 1 4 (fun v => am_Rn L xs d 9 9 ls (v :: st) σ Q) := am_r_getfield d9_6 rfl
theorem r9_9 {a b : Int32} : am_Rn L xs d 9 9 ls (.int b :: .int a :: st) σ Q = if b ≤ a then am_Rn L xs d 9 27 ls st σ Q else am_Rn L xs d 9 12 ls st σ Q := (am_r_icmp (t := 27) d9_9 (by decide)).trans (am_ite _ _ trivial (by simp only [am_cond, decide_eq_true_eq]))
theorem r9_12  : am_Rn L xs d 9 12 ls st σ Q = am_la ls 0 (fun x => am_Rn L xs d 9 13 ls (x :: st) σ Q) := am_r_aload_n d9_12
theorem r9_13 {p : Nat} : am_Rn L xs d 9 13 ls (.ref p :: st) σ Q = am_fd σ p 1 0 (fun v => am_Rn L xs d 9 16 ls (v :: st) σ Q) := am_r_getfield d9_13 rfl
theorem r9_16  : am_Rn L xs d 9 16 ls st σ Q = am_li ls 1 (fun x => am_Rn L xs d 9 17 ls (.int x :: st) σ Q) := am_r_iload_n d9_16
theorem r9_17 {p : Nat} {i : Int32} : am_Rn L xs d 9 17 ls (.int i :: .ref p :: st) σ Q = am_ai 0 σ p i (fun x => am_Rn L xs d 9 18 ls (.int x :: st) σ Q) := am_r_iaload d9_17
theorem r9_18  : am_Rn L xs d 9 18 ls st σ Q = am_Rn L xs d 9 20 ls (.int (-2) :: st) σ Q := am_r_bipush d9_18 (by decide)
theorem r9_20 {a b : Int32} : am_Rn L xs d 9 20 ls (.int b :: .int a :: st) σ Q = if a = b then am_Rn L xs d 9 27 ls st σ Q else am_Rn L xs d 9 23 ls st σ Q := (am_r_icmp (t := 27) d9_20 (by decide)).trans (am_ite _ _ trivial (by simp only [am_cond, decide_eq_true_eq]))
theorem r9_23  : am_Rn L xs d 9 23 ls st σ Q = am_Rn L xs d 9 24 ls (.int 1 :: st) σ Q := am_r_iconst d9_23 (by decide)
theorem r9_24  : am_Rn L xs d 9 24 ls st σ Q = am_Rn L xs d 9 28 ls st σ Q := am_r_goto d9_24 (by decide)
theorem r9_27  : am_Rn L xs d 9 27 ls st σ Q = am_Rn L xs d 9 28 ls (.int 0 :: st) σ Q := am_r_iconst d9_27 (by decide)
theorem r9_28 {v : Int32} (hv : v = 0 ∨ v = 1) : am_Rn L xs d 9 28 ls [.int v] σ Q = Q (some (.int v)) σ := am_r_zreturn d9_28 rfl hv
theorem d10_0 : decode (pg_code 10) 0 = .ok (.iconst 0, 1) := by decide +kernel
theorem d10_1 : decode (pg_code 10) 1 = .ok (.istore_n 2, 1) := by decide +kernel
theorem d10_2 : decode (pg_code 10) 2 = .ok (.iconst 0, 1) := by decide +kernel
theorem d10_3 : decode (pg_code 10) 3 = .ok (.istore_n 3, 1) := by decide +kernel
theorem d10_4 : decode (pg_code 10) 4 = .ok (.iload_n 3, 1) := by decide +kernel
theorem d10_5 : decode (pg_code 10) 5 = .ok (.aload_n 0, 1) := by decide +kernel
theorem d10_6 : decode (pg_code 10) 6 = .ok (.getfield 30, 3) := by decide +kernel
theorem d10_9 : decode (pg_code 10) 9 = .ok (.if_icmp .ge 22, 3) := by decide +kernel
theorem d10_12 : decode (pg_code 10) 12 = .ok (.aload_n 0, 1) := by decide +kernel
theorem d10_13 : decode (pg_code 10) 13 = .ok (.getfield 9, 3) := by decide +kernel
theorem d10_16 : decode (pg_code 10) 16 = .ok (.iload_n 3, 1) := by decide +kernel
theorem d10_17 : decode (pg_code 10) 17 = .ok (.iaload, 1) := by decide +kernel
theorem d10_18 : decode (pg_code 10) 18 = .ok (.iload_n 1, 1) := by decide +kernel
theorem d10_19 : decode (pg_code 10) 19 = .ok (.if_icmp .ne 6, 3) := by decide +kernel
theorem d10_22 : decode (pg_code 10) 22 = .ok (.iinc 2 1, 3) := by decide +kernel
theorem d10_25 : decode (pg_code 10) 25 = .ok (.iinc 3 1, 3) := by decide +kernel
theorem d10_28 : decode (pg_code 10) 28 = .ok (.goto (-24), 3) := by decide +kernel
theorem d10_31 : decode (pg_code 10) 31 = .ok (.iload_n 2, 1) := by decide +kernel
theorem d10_32 : decode (pg_code 10) 32 = .ok (.ireturn, 1) := by decide +kernel
theorem e10 {b1 b2 : Value} : am_Call L xs d 10 [b1, b2] σ Q = am_Rn L xs d 10 0 [b1, b2, .retAddr 0, .retAddr 0] [] σ Q := rfl
theorem r10_0  : am_Rn L xs d 10 0 ls st σ Q = am_Rn L xs d 10 1 ls (.int 0 :: st) σ Q := am_r_iconst d10_0 (by decide)
theorem r10_1 {x : Int32} : am_Rn L xs d 10 1 ls (.int x :: st) σ Q = (2 < ls.length ∧ am_Rn L xs d 10 2 (ls.set 2 (.int x)) st σ Q) := am_r_istore_n d10_1
theorem r10_2  : am_Rn L xs d 10 2 ls st σ Q = am_Rn L xs d 10 3 ls (.int 0 :: st) σ Q := am_r_iconst d10_2 (by decide)
theorem r10_3 {x : Int32} : am_Rn L xs d 10 3 ls (.int x :: st) σ Q = (3 < ls.length ∧ am_Rn L xs d 10 4 (ls.set 3 (.int x)) st σ Q) := am_r_istore_n d10_3
theorem r10_4  : am_Rn L xs d 10 4 ls st σ Q = am_li ls 3 (fun x => am_Rn L xs d 10 5 ls (.int x :: st) σ Q) := am_r_iload_n d10_4
theorem r10_5  : am_Rn L xs d 10 5 ls st σ Q = am_la ls 0 (fun x => am_Rn L xs d 10 6 ls (x :: st) σ Q) := am_r_aload_n d10_5
theorem r10_6 {p : Nat} : am_Rn L xs d 10 6 ls (.ref p :: st) σ Q = am_fd σ p 1 4 (fun v => am_Rn L xs d 10 9 ls (v :: st) σ Q) := am_r_getfield d10_6 rfl
theorem r10_9 {a b : Int32} : am_Rn L xs d 10 9 ls (.int b :: .int a :: st) σ Q = if b ≤ a then am_Rn L xs d 10 31 ls st σ Q else am_Rn L xs d 10 12 ls st σ Q := (am_r_icmp (t := 31) d10_9 (by decide)).trans (am_ite _ _ trivial (by simp only [am_cond, decide_eq_true_eq]))
theorem r10_12  : am_Rn L xs d 10 12 ls st σ Q = am_la ls 0 (fun x => am_Rn L xs d 10 13 ls (x :: st) σ Q) := am_r_aload_n d10_12
theorem r10_13 {p : Nat} : am_Rn L xs d 10 13 ls (.ref p :: st) σ Q = am_fd σ p 1 0 (fun v => am_Rn L xs d 10 16 ls (v :: st) σ Q) := am_r_getfield d10_13 rfl
theorem r10_16  : am_Rn L xs d 10 16 ls st σ Q = am_li ls 3 (fun x => am_Rn L xs d 10 17 ls (.int x :: st) σ Q) := am_r_iload_n d10_16
theorem r10_17 {p : Nat} {i : Int32} : am_Rn L xs d 10 17 ls (.int i :: .ref p :: st) σ Q = am_ai 0 σ p i (fun x => am_Rn L xs d 10 18 ls (.int x :: st) σ Q) := am_r_iaload d10_17
theorem r10_18  : am_Rn L xs d 10 18 ls st σ Q = am_li ls 1 (fun x => am_Rn L xs d 10 19 ls (.int x :: st) σ Q) := am_r_iload_n d10_18
theorem r10_19 {a b : Int32} : am_Rn L xs d 10 19 ls (.int b :: .int a :: st) σ Q = if ¬ a = b then am_Rn L xs d 10 25 ls st σ Q else am_Rn L xs d 10 22 ls st σ Q := (am_r_icmp (t := 25) d10_19 (by decide)).trans (am_ite _ _ trivial (by simp only [am_cond, decide_eq_true_eq]))
theorem r10_22  : am_Rn L xs d 10 22 ls st σ Q = am_li ls 2 (fun x => am_Rn L xs d 10 25 (ls.set 2 (.int (x + 1))) st σ Q) := am_r_iinc d10_22 (by decide)
theorem r10_25  : am_Rn L xs d 10 25 ls st σ Q = am_li ls 3 (fun x => am_Rn L xs d 10 28 (ls.set 3 (.int (x + 1))) st σ Q) := am_r_iinc d10_25 (by decide)
theorem r10_28  : am_Rn L xs d 10 28 ls st σ Q = am_Rn L xs d 10 4 ls st σ Q := am_r_goto d10_28 (by decide)
theorem r10_31  : am_Rn L xs d 10 31 ls st σ Q = am_li ls 2 (fun x => am_Rn L xs d 10 32 ls (.int x :: st) σ Q) := am_r_iload_n d10_31
theorem r10_32 {v : Int32} : am_Rn L xs d 10 32 ls [.int v] σ Q = Q (some (.int v)) σ := am_r_ireturn d10_32 rfl
theorem d11_0 : decode (pg_code 11) 0 = .ok (.iconst 0, 1) := by decide +kernel
theorem d11_1 : decode (pg_code 11) 1 = .ok (.istore_n 3, 1) := by decide +kernel
theorem d11_2 : decode (pg_code 11) 2 = .ok (.iload_n 3, 1) := by decide +kernel
theorem d11_3 : decode (pg_code 11) 3 = .ok (.aload_n 0, 1) := by decide +kernel
theorem d11_4 : decode (pg_code 11) 4 = .ok (.getfield 30, 3) := by decide +kernel
theorem d11_7 : decode (pg_code 11) 7 = .ok (.if_icmp .ge 31, 3) := by decide +kernel
theorem d11_10 : decode (pg_code 11) 10 = .ok (.aload_n 0, 1) := by decide +kernel
theorem d11_11 : decode (pg_code 11) 11 = .ok (.getfield 9, 3) := by decide +kernel
theorem d11_14 : decode (pg_code 11) 14 = .ok (.iload_n 3, 1) := by decide +kernel
theorem d11_15 : decode (pg_code 11) 15 = .ok (.iaload, 1) := by decide +kernel
theorem d11_16 : decode (pg_code 11) 16 = .ok (.iload_n 1, 1) := by decide +kernel
theorem d11_17 : decode (pg_code 11) 17 = .ok (.if_icmp .ne 15, 3) := by decide +kernel
theorem d11_20 : decode (pg_code 11) 20 = .ok (.aload_n 0, 1) := by decide +kernel
theorem d11_21 : decode (pg_code 11) 21 = .ok (.getfield 15, 3) := by decide +kernel
theorem d11_24 : decode (pg_code 11) 24 = .ok (.iload_n 3, 1) := by decide +kernel
theorem d11_25 : decode (pg_code 11) 25 = .ok (.iaload, 1) := by decide +kernel
theorem d11_26 : decode (pg_code 11) 26 = .ok (.iload_n 2, 1) := by decide +kernel
theorem d11_27 : decode (pg_code 11) 27 = .ok (.if_icmp .ne 5, 3) := by decide +kernel
theorem d11_30 : decode (pg_code 11) 30 = .ok (.iload_n 3, 1) := by decide +kernel
theorem d11_31 : decode (pg_code 11) 31 = .ok (.ireturn, 1) := by decide +kernel
theorem d11_32 : decode (pg_code 11) 32 = .ok (.iinc 3 1, 3) := by decide +kernel
theorem d11_35 : decode (pg_code 11) 35 = .ok (.goto (-33), 3) := by decide +kernel
theorem d11_38 : decode (pg_code 11) 38 = .ok (.iconst (-1), 1) := by decide +kernel
theorem d11_39 : decode (pg_code 11) 39 = .ok (.ireturn, 1) := by decide +kernel
theorem e11 {b1 b2 b3 : Value} : am_Call L xs d 11 [b1, b2, b3] σ Q = am_Rn L xs d 11 0 [b1, b2, b3, .retAddr 0] [] σ Q := rfl
theorem r11_0  : am_Rn L xs d 11 0 ls st σ Q = am_Rn L xs d 11 1 ls (.int 0 :: st) σ Q := am_r_iconst d11_0 (by decide)
theorem r11_1 {x : Int32} : am_Rn L xs d 11 1 ls (.int x :: st) σ Q = (3 < ls.length ∧ am_Rn L xs d 11 2 (ls.set 3 (.int x)) st σ Q) := am_r_istore_n d11_1
theorem r11_2  : am_Rn L xs d 11 2 ls st σ Q = am_li ls 3 (fun x => am_Rn L xs d 11 3 ls (.int x :: st) σ Q) := am_r_iload_n d11_2
theorem r11_3  : am_Rn L xs d 11 3 ls st σ Q = am_la ls 0 (fun x => am_Rn L xs d 11 4 ls (x :: st) σ Q) := am_r_aload_n d11_3
theorem r11_4 {p : Nat} : am_Rn L xs d 11 4 ls (.ref p :: st) σ Q = am_fd σ p 1 4 (fun v => am_Rn L xs d 11 7 ls (v :: st) σ Q) := am_r_getfield d11_4 rfl
theorem r11_7 {a b : Int32} : am_Rn L xs d 11 7 ls (.int b :: .int a :: st) σ Q = if b ≤ a then am_Rn L xs d 11 38 ls st σ Q else am_Rn L xs d 11 10 ls st σ Q := (am_r_icmp (t := 38) d11_7 (by decide)).trans (am_ite _ _ trivial (by simp only [am_cond, decide_eq_true_eq]))
theorem r11_10  : am_Rn L xs d 11 10 ls st σ Q = am_la ls 0 (fun x => am_Rn L xs d 11 11 ls (x :: st) σ Q) := am_r_aload_n d11_10
theorem r11_11 {p : Nat} : am_Rn L xs d 11 11 ls (.ref p :: st) σ Q = am_fd σ p 1 0 (fun v => am_Rn L xs d 11 14 ls (v :: st) σ Q) := am_r_getfield d11_11 rfl
theorem r11_14  : am_Rn L xs d 11 14 ls st σ Q = am_li ls 3 (fun x => am_Rn L xs d 11 15 ls (.int x :: st) σ Q) := am_r_iload_n d11_14
theorem r11_15 {p : Nat} {i : Int32} : am_Rn L xs d 11 15 ls (.int i :: .ref p :: st) σ Q = am_ai 0 σ p i (fun x => am_Rn L xs d 11 16 ls (.int x :: st) σ Q) := am_r_iaload d11_15
theorem r11_16  : am_Rn L xs d 11 16 ls st σ Q = am_li ls 1 (fun x => am_Rn L xs d 11 17 ls (.int x :: st) σ Q) := am_r_iload_n d11_16
theorem r11_17 {a b : Int32} : am_Rn L xs d 11 17 ls (.int b :: .int a :: st) σ Q = if ¬ a = b then am_Rn L xs d 11 32 ls st σ Q else am_Rn L xs d 11 20 ls st σ Q := (am_r_icmp (t := 32) d11_17 (by decide)).trans (am_ite _ _ trivial (by simp only [am_cond, decide_eq_true_eq]))
theorem r11_20  : am_Rn L xs d 11 20 ls st σ Q = am_la ls 0 (fun x => am_Rn L xs d 11 21 ls (x :: st) σ Q) := am_r_aload_n d11_20
theorem r11_21 {p : Nat} : am_Rn L xs d 11 21 ls (.ref p :: st) σ Q = am_fd σ p 1 1 (fun v => am_Rn L xs d 11 24 ls (v :: st) σ Q) := am_r_getfield d11_21 rfl
theorem r11_24  : am_Rn L xs d 11 24 ls st σ Q = am_li ls 3 (fun x => am_Rn L xs d 11 25 ls (.int x :: st) σ Q) := am_r_iload_n d11_24
theorem r11_25 {p : Nat} {i : Int32} : am_Rn L xs d 11 25 ls (.int i :: .ref p :: st) σ Q = am_ai 0 σ p i (fun x => am_Rn L xs d 11 26 ls (.int x :: st) σ Q) := am_r_iaload d11_25
theorem r11_26  : am_Rn L xs d 11 26 ls st σ Q = am_li ls 2 (fun x => am_Rn L xs d 11 27 ls (.int x :: st) σ Q) := am_r_iload_n d11_26
theorem r11_27 {a b : Int32} : am_Rn L xs d 11 27 ls (.int b :: .int a :: st) σ Q = if ¬ a = b then am_Rn L xs d 11 32 ls st σ Q else am_Rn L xs d 11 30 ls st σ Q := (am_r_icmp (t := 32) d11_27 (by decide)).trans (am_ite _ _ trivial (by simp only [am_cond, decide_eq_true_eq]))
theorem r11_30  : am_Rn L xs d 11 30 ls st σ Q = am_li ls 3 (fun x => am_Rn L xs d 11 31 ls (.int x :: st) σ Q) := am_r_iload_n d11_30
theorem r11_31 {v : Int32} : am_Rn L xs d 11 31 ls [.int v] σ Q = Q (some (.int v)) σ := am_r_ireturn d11_31 rfl
theorem r11_32  : am_Rn L xs d 11 32 ls st σ Q = am_li ls 3 (fun x => am_Rn L xs d 11 35 (ls.set 3 (.int (x + 1))) st σ Q) := am_r_iinc d11_32 (by decide)
theorem r11_35  : am_Rn L xs d 11 35 ls st σ Q = am_Rn L xs d 11 2 ls st σ Q := am_r_goto d11_35 (by decide)
theorem r11_38  : am_Rn L xs d 11 38 ls st σ Q = am_Rn L xs d 11 39 ls (.int (-1) :: st) σ Q := am_r_iconst d11_38 (by decide)
theorem r11_39 {v : Int32} : am_Rn L xs d 11 39 ls [.int v] σ Q = Q (some (.int v)) σ := am_r_ireturn d11_39 rfl
theorem d12_0 : decode (pg_code 12) 0 = .ok (.iload_n 1, 1) := by decide +kernel
theorem d12_1 : decode (pg_code 12) 1 = .ok (.ifCond .lt 12, 3) := by decide +kernel
theorem d12_4 : decode (pg_code 12) 4 = .ok (.iload_n 1, 1) := by decide +kernel
theorem d12_5 : decode (pg_code 12) 5 = .ok (.aload_n 0, 1) := by decide +kernel
theorem d12_6 : decode (pg_code 12) 6 = .ok (.getfield 9, 3) := by decide +kernel
theorem d12_9 : decode (pg_code 12) 9 = .ok (.arraylength, 1) := by decide +kernel
theorem d12_10 : decode (pg_code 12) 10 = .ok (.if_icmp .lt 4, 3) := by decide +kernel
theorem d12_13 : decode (pg_code 12) 13 = .ok (.return_, 1) := by decide +kernel
theorem d12_14 : decode (pg_code 12) 14 = .ok (.aload_n 0, 1) := by decide +kernel
theorem d12_15 : decode (pg_code 12) 15 = .ok (.getfield 18, 3) := by decide +kernel
theorem d12_18 : decode (pg_code 12) 18 = .ok (.iload_n 1, 1) := by decide +kernel
theorem d12_19 : decode (pg_code 12) 19 = .ok (.iload_n 2, 1) := by decide +kernel
theorem d12_20 : decode (pg_code 12) 20 = .ok (.iastore, 1) := by decide +kernel
theorem d12_21 : decode (pg_code 12) 21 = .ok (.aload_n 0, 1) := by decide +kernel
theorem d12_22 : decode (pg_code 12) 22 = .ok (.getfield 21, 3) := by decide +kernel
theorem d12_25 : decode (pg_code 12) 25 = .ok (.iload_n 1, 1) := by decide +kernel
theorem d12_26 : decode (pg_code 12) 26 = .ok (.iload_n 3, 1) := by decide +kernel
theorem d12_27 : decode (pg_code 12) 27 = .ok (.iastore, 1) := by decide +kernel
theorem d12_28 : decode (pg_code 12) 28 = .ok (.aload_n 0, 1) := by decide +kernel
theorem d12_29 : decode (pg_code 12) 29 = .ok (.aload_n 0, 1) := by decide +kernel
theorem d12_30 : decode (pg_code 12) 30 = .ok (.getfield 30, 3) := by decide +kernel
theorem d12_33 : decode (pg_code 12) 33 = .ok (.iload_n 1, 1) := by decide +kernel
theorem d12_34 : decode (pg_code 12) 34 = .ok (.iconst 1, 1) := by decide +kernel
theorem d12_35 : decode (pg_code 12) 35 = .ok (.iadd, 1) := by decide +kernel
theorem d12_36 : decode (pg_code 12) 36 = .ok (.invokestatic 49, 3) := by decide +kernel
theorem d12_39 : decode (pg_code 12) 39 = .ok (.putfield 30, 3) := by decide +kernel
theorem d12_42 : decode (pg_code 12) 42 = .ok (.return_, 1) := by decide +kernel
theorem e12 {b1 b2 b3 b4 : Value} : am_Call L xs d 12 [b1, b2, b3, b4] σ Q = am_Rn L xs d 12 0 [b1, b2, b3, b4] [] σ Q := rfl
theorem r12_0  : am_Rn L xs d 12 0 ls st σ Q = am_li ls 1 (fun x => am_Rn L xs d 12 1 ls (.int x :: st) σ Q) := am_r_iload_n d12_0
theorem r12_1 {a : Int32} : am_Rn L xs d 12 1 ls (.int a :: st) σ Q = if a < 0 then am_Rn L xs d 12 13 ls st σ Q else am_Rn L xs d 12 4 ls st σ Q := (am_r_if (t := 13) d12_1 (by decide)).trans (am_ite _ _ trivial (by simp only [am_cond, decide_eq_true_eq]))
theorem r12_4  : am_Rn L xs d 12 4 ls st σ Q = am_li ls 1 (fun x => am_Rn L xs d 12 5 ls (.int x :: st) σ Q) := am_r_iload_n d12_4
theorem r12_5  : am_Rn L xs d 12 5 ls st σ Q = am_la ls 0 (fun x => am_Rn L xs d 12 6 ls (x :: st) σ Q) := am_r_aload_n d12_5
theorem r12_6 {p : Nat} : am_Rn L xs d 12 6 ls (.ref p :: st) σ Q = am_fd σ p 1 0 (fun v => am_Rn L xs d 12 9 ls (v :: st) σ Q) := am_r_getfield d12_6 rfl
theorem r12_9 {p : Nat} : am_Rn L xs d 12 9 ls (.ref p :: st) σ Q = am_ln σ p (fun x => am_Rn L xs d 12 10 ls (.int x :: st) σ Q) := am_r_arraylength d12_9
theorem r12_10 {a b : Int32} : am_Rn L xs d 12 10 ls (.int b :: .int a :: st) σ Q = if a < b then am_Rn L xs d 12 14 ls st σ Q else am_Rn L xs d 12 13 ls st σ Q := (am_r_icmp (t := 14) d12_10 (by decide)).trans (am_ite _ _ trivial (by simp only [am_cond, decide_eq_true_eq]))
theorem r12_13  : am_Rn L xs d 12 13 ls [] σ Q = Q none σ := am_r_return d12_13 rfl
theorem r12_14  : am_Rn L xs d 12 14 ls st σ Q = am_la ls 0 (fun x => am_Rn L xs d 12 15 ls (x :: st) σ Q) := am_r_aload_n d12_14
theorem r12_15 {p : Nat} : am_Rn L xs d 12 15 ls (.ref p :: st) σ Q = am_fd σ p 1 2 (fun v => am_Rn L xs d 12 18 ls (v :: st) σ Q) := am_r_getfield d12_15 rfl
theorem r12_18  : am_Rn L xs d 12 18 ls st σ Q = am_li ls 1 (fun x => am_Rn L xs d 12 19 ls (.int x :: st) σ Q) := am_r_iload_n d12_18
theorem r12_19  : am_Rn L xs d 12 19 ls st σ Q = am_li ls 2 (fun x => am_Rn L xs d 12 20 ls (.int x :: st) σ Q) := am_r_iload_n d12_19
theorem r12_20 {p : Nat} {i x : Int32} : am_Rn L xs d 12 20 ls (.int x :: .int i :: .ref p :: st) σ Q = am_wi 0 σ p i x (fun σ1 => am_Rn L xs d 12 21 ls st σ1 Q) := am_r_iastore d12_20
theorem r12_21  : am_Rn L xs d 12 21 ls st σ Q = am_la ls 0 (fun x => am_Rn L xs d 12 22 ls (x :: st) σ Q) := am_r_aload_n d12_21
theorem r12_22 {p : Nat} : am_Rn L xs d 12 22 ls (.ref p :: st) σ Q = am_fd σ p 1 3 (fun v => am_Rn L xs d 12 25 ls (v :: st) σ Q) := am_r_getfield d12_22 rfl
theorem r12_25  : am_Rn L xs d 12 25 ls st σ Q = am_li ls 1 (fun x => am_Rn L xs d 12 26 ls (.int x :: st) σ Q) := am_r_iload_n d12_25
theorem r12_26  : am_Rn L xs d 12 26 ls st σ Q = am_li ls 3 (fun x => am_Rn L xs d 12 27 ls (.int x :: st) σ Q) := am_r_iload_n d12_26
theorem r12_27 {p : Nat} {i x : Int32} : am_Rn L xs d 12 27 ls (.int x :: .int i :: .ref p :: st) σ Q = am_wi 0 σ p i x (fun σ1 => am_Rn L xs d 12 28 ls st σ1 Q) := am_r_iastore d12_27
theorem r12_28  : am_Rn L xs d 12 28 ls st σ Q = am_la ls 0 (fun x => am_Rn L xs d 12 29 ls (x :: st) σ Q) := am_r_aload_n d12_28
theorem r12_29  : am_Rn L xs d 12 29 ls st σ Q = am_la ls 0 (fun x => am_Rn L xs d 12 30 ls (x :: st) σ Q) := am_r_aload_n d12_29
theorem r12_30 {p : Nat} : am_Rn L xs d 12 30 ls (.ref p :: st) σ Q = am_fd σ p 1 4 (fun v => am_Rn L xs d 12 33 ls (v :: st) σ Q) := am_r_getfield d12_30 rfl
theorem r12_33  : am_Rn L xs d 12 33 ls st σ Q = am_li ls 1 (fun x => am_Rn L xs d 12 34 ls (.int x :: st) σ Q) := am_r_iload_n d12_33
theorem r12_34  : am_Rn L xs d 12 34 ls st σ Q = am_Rn L xs d 12 35 ls (.int 1 :: st) σ Q := am_r_iconst d12_34 (by decide)
theorem r12_35 {a b : Int32} : am_Rn L xs d 12 35 ls (.int b :: .int a :: st) σ Q = am_Rn L xs d 12 36 ls (.int (a + b) :: st) σ Q := am_r_iadd d12_35
theorem r12_36 {a b : Int32} (hr : st.length ≤ 8) : am_Rn L xs (d + 1) 12 36 ls (.int b :: .int a :: st) σ Q = am_Rn L xs (d + 1) 12 39 ls (.int (if a < b then b else a) :: st) σ Q := am_r_sp d12_36 (Or.inr ⟨rfl, by decide⟩) rfl (by decide) (if_pos hr)
theorem r12_39 {p : Nat} {v : Value} : am_Rn L xs d 12 39 ls (v :: .ref p :: st) σ Q = am_wf 12 1 σ p 1 4 v (fun σ1 => am_Rn L xs d 12 42 ls st σ1 Q) := am_r_putfield d12_39 rfl
theorem r12_42  : am_Rn L xs d 12 42 ls [] σ Q = Q none σ := am_r_return d12_42 rfl
theorem d13_0 : decode (pg_code 13) 0 = .ok (.iload_n 1, 1) := by decide +kernel
theorem d13_1 : decode (pg_code 13) 1 = .ok (.ifCond .lt 11, 3) := by decide +kernel
theorem d13_4 : decode (pg_code 13) 4 = .ok (.iload_n 1, 1) := by decide +kernel
theorem d13_5 : decode (pg_code 13) 5 = .ok (.aload_n 0, 1) := by decide +kernel
theorem d13_6 : decode (pg_code 13) 6 = .ok (.getfield 30, 3) := by decide +kernel
theorem d13_9 : decode (pg_code 13) 9 = .ok (.if_icmp .lt 4, 3) := by decide +kernel
theorem d13_12 : decode (pg_code 13) 12 = .ok (.return_, 1) := by decide +kernel
theorem d13_13 : decode (pg_code 13) 13 = .ok (.aload_n 0, 1) := by decide +kernel
theorem d13_14 : decode (pg_code 13) 14 = .ok (.iload_n 3, 1) := by decide +kernel
theorem d13_15 : decode (pg_code 13) 15 = .ok (.invokevirtual 52, 3) := by decide +kernel
theorem d13_18 : decode (pg_code 13) 18 = .ok (.ifCond .eq 14, 3) := by decide +kernel
theorem d13_21 : decode (pg_code 13) 21 = .ok (.aload_n 0, 1) := by decide +kernel
theorem d13_22 : decode (pg_code 13) 22 = .ok (.getfield 15, 3) := by decide +kernel
theorem d13_25 : decode (pg_code 13) 25 = .ok (.iload_n 3, 1) := by decide +kernel
theorem d13_26 : decode (pg_code 13) 26 = .ok (.iaload, 1) := by decide +kernel
theorem d13_27 : decode (pg_code 13) 27 = .ok (.iconst 1, 1) := by decide +kernel
theorem d13_28 : decode (pg_code 13) 28 = .ok (.iadd, 1) := by decide +kernel
theorem d13_29 : decode (pg_code 13) 29 = .ok (.goto 4, 3) := by decide +kernel
theorem d13_32 : decode (pg_code 13) 32 = .ok (.iconst 0, 1) := by decide +kernel
theorem d13_33 : decode (pg_code 13) 33 = .ok (.istore 4, 2) := by decide +kernel
theorem d13_35 : decode (pg_code 13) 35 = .ok (.iconst 0, 1) := by decide +kernel
theorem d13_36 : decode (pg_code 13) 36 = .ok (.istore 5, 2) := by decide +kernel
theorem d13_38 : decode (pg_code 13) 38 = .ok (.iload 5, 2) := by decide +kernel
theorem d13_40 : decode (pg_code 13) 40 = .ok (.aload_n 0, 1) := by decide +kernel
theorem d13_41 : decode (pg_code 13) 41 = .ok (.getfield 30, 3) := by decide +kernel
theorem d13_44 : decode (pg_code 13) 44 = .ok (.if_icmp .ge 43, 3) := by decide +kernel
theorem d13_47 : decode (pg_code 13) 47 = .ok (.aload_n 0, 1) := by decide +kernel
theorem d13_48 : decode (pg_code 13) 48 = .ok (.getfield 9, 3) := by decide +kernel
theorem d13_51 : decode (pg_code 13) 51 = .ok (.iload 5, 2) := by decide +kernel
theorem d13_53 : decode (pg_code 13) 53 = .ok (.iaload, 1) := by decide +kernel
theorem d13_54 : decode (pg_code 13) 54 = .ok (.iload_n 2, 1) := by decide +kernel
theorem d13_55 : decode (pg_code 13) 55 = .ok (.if_icmp .ne 26, 3) := by decide +kernel
theorem d13_58 : decode (pg_code 13) 58 = .ok (.aload_n 0, 1) := by decide +kernel
theorem d13_59 : decode (pg_code 13) 59 = .ok (.getfield 15, 3) := by decide +kernel
theorem d13_62 : decode (pg_code 13) 62 = .ok (.iload 5, 2) := by decide +kernel
theorem d13_64 : decode (pg_code 13) 64 = .ok (.iaload, 1) := by decide +kernel
theorem d13_65 : decode (pg_code 13) 65 = .ok (.iload 4, 2) := by decide +kernel
theorem d13_67 : decode (pg_code 13) 67 = .ok (.if_icmp .lt 14, 3) := by decide +kernel
theorem d13_70 : decode (pg_code 13) 70 = .ok (.aload_n 0, 1) := by decide +kernel
theorem d13_71 : decode (pg_code 13) 71 = .ok (.getfield 15, 3) := by decide +kernel
theorem d13_74 : decode (pg_code 13) 74 = .ok (.iload 5, 2) := by decide +kernel
theorem d13_76 : decode (pg_code 13) 76 = .ok (.dup2, 1) := by decide +kernel
theorem d13_77 : decode (pg_code 13) 77 = .ok (.iaload, 1) := by decide +kernel
theorem d13_78 : decode (pg_code 13) 78 = .ok (.iconst 1, 1) := by decide +kernel
theorem d13_79 : decode (pg_code 13) 79 = .ok (.iadd, 1) := by decide +kernel
theorem d13_80 : decode (pg_code 13) 80 = .ok (.iastore, 1) := by decide +kernel
theorem d13_81 : decode (pg_code 13) 81 = .ok (.iinc 5 1, 3) := by decide +kernel
theorem d13_84 : decode (pg_code 13) 84 = .ok (.goto (-46), 3) := by decide +kernel
theorem d13_87 : decode (pg_code 13) 87 = .ok (.aload_n 0, 1) := by decide +kernel
theorem d13_88 : decode (pg_code 13) 88 = .ok (.getfield 9, 3) := by decide +kernel
theorem d13_91 : decode (pg_code 13) 91 = .ok (.iload_n 1, 1) := by decide +kernel
theorem d13_92 : decode (pg_code 13) 92 = .ok (.iload_n 2, 1) := by decide +kernel
theorem d13_93 : decode (pg_code 13) 93 = .ok (.iastore, 1) := by decide +kernel
theorem d13_94 : decode (pg_code 13) 94 = .ok (.aload_n 0, 1) := by decide +kernel
theorem d13_95 : decode (pg_code 13) 95 = .ok (.getfield 15, 3) := by decide +kernel
theorem d13_98 : decode (pg_code 13) 98 = .ok (.iload_n 1, 1) := by decide +kernel
theorem d13_99 : decode (pg_code 13) 99 = .ok (.iload 4, 2) := by decide +kernel
theorem d13_101 : decode (pg_code 13) 101 = .ok (.iastore, 1) := by decide +kernel
theorem d13_102 : decode (pg_code 13) 102 = .ok (.return_, 1) := by decide +kernel
theorem e13 {b1 b2 b3 b4 : Value} : am_Call L xs d 13 [b1, b2, b3, b4] σ Q = am_Rn L xs d 13 0 [b1, b2, b3, b4, .retAddr 0, .retAddr 0] [] σ Q := rfl
theorem r13_0  : am_Rn L xs d 13 0 ls st σ Q = am_li ls 1 (fun x => am_Rn L xs d 13 1 ls (.int x :: st) σ Q) := am_r_iload_n d13_0
theorem r13_1 {a : Int32} : am_Rn L xs d 13 1 ls (.int a :: st) σ Q = if a < 0 then am_Rn L xs d 13 12 ls st σ Q else am_Rn L xs d 13 4 ls st σ Q := (am_r_if (t := 12) d13_1 (by decide)).trans (am_ite _ _ trivial (by simp only [am_cond, decide_eq_true_eq]))
theorem r13_4  : am_Rn L xs d 13 4 ls st σ Q = am_li ls 1 (fun x => am_Rn L xs d 13 5 ls (.int x :: st) σ Q) := am_r_iload_n d13_4
theorem r13_5  : am_Rn L xs d 13 5 ls st σ Q = am_la ls 0 (fun x => am_Rn L xs d 13 6 ls (x :: st) σ Q) := am_r_aload_n d13_5
theorem r13_6 {p : Nat} : am_Rn L xs d 13 6 ls (.ref p :: st) σ Q = am_fd σ p 1 4 (fun v => am_Rn L xs d 13 9 ls (v :: st) σ Q) := am_r_getfield d13_6 rfl
theorem r13_9 {a b : Int32} : am_Rn L xs d 13 9 ls (.int b :: .int a :: st) σ Q = if a < b then am_Rn L xs d 13 13 ls st σ Q else am_Rn L xs d 13 12 ls st σ Q := (am_r_icmp (t := 13) d13_9 (by decide)).trans (am_ite _ _ trivial (by simp only [am_cond, decide_eq_true_eq]))
theorem r13_12  : am_Rn L xs d 13 12 ls [] σ Q = Q none σ := am_r_return d13_12 rfl
theorem r13_13  : am_Rn L xs d 13 13 ls st σ Q = am_la ls 0 (fun x => am_Rn L xs d 13 14 ls (x :: st) σ Q) := am_r_aload_n d13_13
theorem r13_14  : am_Rn L xs d 13 14 ls st σ Q = am_li ls 3 (fun x => am_Rn L xs d 13 15 ls (.int x :: st) σ Q) := am_r_iload_n d13_14
theorem r13_15 {a1 : Value} {p : Nat} : am_Rn L xs (d + 1) 13 15 ls (a1 :: .ref p :: st) σ Q = ((am_oc σ p = 1 ∧ st.length ≤ 4 ∧ am_ok a1 = true) ∧ am_Call L xs d 9 [.ref p, a1] σ (fun r σ1 => am_Rn L xs (d + 1) 13 18 ls (r.toList ++ st) σ1 Q)) := am_R_virtual1 d13_15 rfl ⟨by decide, rfl⟩ rfl rfl (by decide)
theorem r13_18 {a : Int32} : am_Rn L xs d 13 18 ls (.int a :: st) σ Q = if a = 0 then am_Rn L xs d 13 32 ls st σ Q else am_Rn L xs d 13 21 ls st σ Q := (am_r_if (t := 32) d13_18 (by decide)).trans (am_ite _ _ trivial (by simp only [am_cond, decide_eq_true_eq]))
theorem r13_21  : am_Rn L xs d 13 21 ls st σ Q = am_la ls 0 (fun x => am_Rn L xs d 13 22 ls (x :: st) σ Q) := am_r_aload_n d13_21
theorem r13_22 {p : Nat} : am_Rn L xs d 13 22 ls (.ref p :: st) σ Q = am_fd σ p 1 1 (fun v => am_Rn L xs d 13 25 ls (v :: st) σ Q) := am_r_getfield d13_22 rfl
theorem r13_25  : am_Rn L xs d 13 25 ls st σ Q = am_li ls 3 (fun x => am_Rn L xs d 13 26 ls (.int x :: st) σ Q) := am_r_iload_n d13_25
theorem r13_26 {p : Nat} {i : Int32} : am_Rn L xs d 13 26 ls (.int i :: .ref p :: st) σ Q = am_ai 0 σ p i (fun x => am_Rn L xs d 13 27 ls (.int x :: st) σ Q) := am_r_iaload d13_26
theorem r13_27  : am_Rn L xs d 13 27 ls st σ Q = am_Rn L xs d 13 28 ls (.int 1 :: st) σ Q := am_r_iconst d13_27 (by decide)
theorem r13_28 {a b : Int32} : am_Rn L xs d 13 28 ls (.int b :: .int a :: st) σ Q = am_Rn L xs d 13 29 ls (.int (a + b) :: st) σ Q := am_r_iadd d13_28
theorem r13_29  : am_Rn L xs d 13 29 ls st σ Q = am_Rn L xs d 13 33 ls st σ Q := am_r_goto d13_29 (by decide)
theorem r13_32  : am_Rn L xs d 13 32 ls st σ Q = am_Rn L xs d 13 33 ls (.int 0 :: st) σ Q := am_r_iconst d13_32 (by decide)
theorem r13_33 {x : Int32} : am_Rn L xs d 13 33 ls (.int x :: st) σ Q = (4 < ls.length ∧ am_Rn L xs d 13 35 (ls.set 4 (.int x)) st σ Q) := am_r_istore d13_33
theorem r13_35  : am_Rn L xs d 13 35 ls st σ Q = am_Rn L xs d 13 36 ls (.int 0 :: st) σ Q := am_r_iconst d13_35 (by decide)
theorem r13_36 {x : Int32} : am_Rn L xs d 13 36 ls (.int x :: st) σ Q = (5 < ls.length ∧ am_Rn L xs d 13 38 (ls.set 5 (.int x)) st σ Q) := am_r_istore d13_36
theorem r13_38  : am_Rn L xs d 13 38 ls st σ Q = am_li ls 5 (fun x => am_Rn L xs d 13 40 ls (.int x :: st) σ Q) := am_r_iload d13_38
theorem r13_40  : am_Rn L xs d 13 40 ls st σ Q = am_la ls 0 (fun x => am_Rn L xs d 13 41 ls (x :: st) σ Q) := am_r_aload_n d13_40
theorem r13_41 {p : Nat} : am_Rn L xs d 13 41 ls (.ref p :: st) σ Q = am_fd σ p 1 4 (fun v => am_Rn L xs d 13 44 ls (v :: st) σ Q) := am_r_getfield d13_41 rfl
theorem r13_44 {a b : Int32} : am_Rn L xs d 13 44 ls (.int b :: .int a :: st) σ Q = if b ≤ a then am_Rn L xs d 13 87 ls st σ Q else am_Rn L xs d 13 47 ls st σ Q := (am_r_icmp (t := 87) d13_44 (by decide)).trans (am_ite _ _ trivial (by simp only [am_cond, decide_eq_true_eq]))
theorem r13_47  : am_Rn L xs d 13 47 ls st σ Q = am_la ls 0 (fun x => am_Rn L xs d 13 48 ls (x :: st) σ Q) := am_r_aload_n d13_47
theorem r13_48 {p : Nat} : am_Rn L xs d 13 48 ls (.ref p :: st) σ Q = am_fd σ p 1 0 (fun v => am_Rn L xs d 13 51 ls (v :: st) σ Q) := am_r_getfield d13_48 rfl
theorem r13_51  : am_Rn L xs d 13 51 ls st σ Q = am_li ls 5 (fun x => am_Rn L xs d 13 53 ls (.int x :: st) σ Q) := am_r_iload d13_51
theorem r13_53 {p : Nat} {i : Int32} : am_Rn L xs d 13 53 ls (.int i :: .ref p :: st) σ Q = am_ai 0 σ p i (fun x => am_Rn L xs d 13 54 ls (.int x :: st) σ Q) := am_r_iaload d13_53
theorem r13_54  : am_Rn L xs d 13 54 ls st σ Q = am_li ls 2 (fun x => am_Rn L xs d 13 55 ls (.int x :: st) σ Q) := am_r_iload_n d13_54
theorem r13_55 {a b : Int32} : am_Rn L xs d 13 55 ls (.int b :: .int a :: st) σ Q = if ¬ a = b then am_Rn L xs d 13 81 ls st σ Q else am_Rn L xs d 13 58 ls st σ Q := (am_r_icmp (t := 81) d13_55 (by decide)).trans (am_ite _ _ trivial (by simp only [am_cond, decide_eq_true_eq]))
theorem r13_58  : am_Rn L xs d 13 58 ls st σ Q = am_la ls 0 (fun x => am_Rn L xs d 13 59 ls (x :: st) σ Q) := am_r_aload_n d13_58
theorem r13_59 {p : Nat} : am_Rn L xs d 13 59 ls (.ref p :: st) σ Q = am_fd σ p 1 1 (fun v => am_Rn L xs d 13 62 ls (v :: st) σ Q) := am_r_getfield d13_59 rfl
theorem r13_62  : am_Rn L xs d 13 62 ls st σ Q = am_li ls 5 (fun x => am_Rn L xs d 13 64 ls (.int x :: st) σ Q) := am_r_iload d13_62
theorem r13_64 {p : Nat} {i : Int32} : am_Rn L xs d 13 64 ls (.int i :: .ref p :: st) σ Q = am_ai 0 σ p i (fun x => am_Rn L xs d 13 65 ls (.int x :: st) σ Q) := am_r_iaload d13_64
theorem r13_65  : am_Rn L xs d 13 65 ls st σ Q = am_li ls 4 (fun x => am_Rn L xs d 13 67 ls (.int x :: st) σ Q) := am_r_iload d13_65
theorem r13_67 {a b : Int32} : am_Rn L xs d 13 67 ls (.int b :: .int a :: st) σ Q = if a < b then am_Rn L xs d 13 81 ls st σ Q else am_Rn L xs d 13 70 ls st σ Q := (am_r_icmp (t := 81) d13_67 (by decide)).trans (am_ite _ _ trivial (by simp only [am_cond, decide_eq_true_eq]))
theorem r13_70  : am_Rn L xs d 13 70 ls st σ Q = am_la ls 0 (fun x => am_Rn L xs d 13 71 ls (x :: st) σ Q) := am_r_aload_n d13_70
theorem r13_71 {p : Nat} : am_Rn L xs d 13 71 ls (.ref p :: st) σ Q = am_fd σ p 1 1 (fun v => am_Rn L xs d 13 74 ls (v :: st) σ Q) := am_r_getfield d13_71 rfl
theorem r13_74  : am_Rn L xs d 13 74 ls st σ Q = am_li ls 5 (fun x => am_Rn L xs d 13 76 ls (.int x :: st) σ Q) := am_r_iload d13_74
theorem r13_76 {a b : Value} : am_Rn L xs d 13 76 ls (a :: b :: st) σ Q = ((am_ok a && am_ok b) = true ∧ am_Rn L xs d 13 77 ls (a :: b :: a :: b :: st) σ Q) := am_r_dup2 d13_76
theorem r13_77 {p : Nat} {i : Int32} : am_Rn L xs d 13 77 ls (.int i :: .ref p :: st) σ Q = am_ai 0 σ p i (fun x => am_Rn L xs d 13 78 ls (.int x :: st) σ Q) := am_r_iaload d13_77
theorem r13_78  : am_Rn L xs d 13 78 ls st σ Q = am_Rn L xs d 13 79 ls (.int 1 :: st) σ Q := am_r_iconst d13_78 (by decide)
theorem r13_79 {a b : Int32} : am_Rn L xs d 13 79 ls (.int b :: .int a :: st) σ Q = am_Rn L xs d 13 80 ls (.int (a + b) :: st) σ Q := am_r_iadd d13_79
theorem r13_80 {p : Nat} {i x : Int32} : am_Rn L xs d 13 80 ls (.int x :: .int i :: .ref p :: st) σ Q = am_wi 0 σ p i x (fun σ1 => am_Rn L xs d 13 81 ls st σ1 Q) := am_r_iastore d13_80
theorem r13_81  : am_Rn L xs d 13 81 ls st σ Q = am_li ls 5 (fun x => am_Rn L xs d 13 84 (ls.set 5 (.int (x + 1))) st σ Q) := am_r_iinc d13_81 (by decide)
theorem r13_84  : am_Rn L xs d 13 84 ls st σ Q = am_Rn L xs d 13 38 ls st σ Q := am_r_goto d13_84 (by decide)
theorem r13_87  : am_Rn L xs d 13 87 ls st σ Q = am_la ls 0 (fun x => am_Rn L xs d 13 88 ls (x :: st) σ Q) := am_r_aload_n d13_87
theorem r13_88 {p : Nat} : am_Rn L xs d 13 88 ls (.ref p :: st) σ Q = am_fd σ p 1 0 (fun v => am_Rn L xs d 13 91 ls (v :: st) σ Q) := am_r_getfield d13_88 rfl
theorem r13_91  : am_Rn L xs d 13 91 ls st σ Q = am_li ls 1 (fun x => am_Rn L xs d 13 92 ls (.int x :: st) σ Q) := am_r_iload_n d13_91
theorem r13_92  : am_Rn L xs d 13 92 ls st σ Q = am_li ls 2 (fun x => am_Rn L xs d 13 93 ls (.int x :: st) σ Q) := am_r_iload_n d13_92
theorem r13_93 {p : Nat} {i x : Int32} : am_Rn L xs d 13 93 ls (.int x :: .int i :: .ref p :: st) σ Q = am_wi 0 σ p i x (fun σ1 => am_Rn L xs d 13 94 ls st σ1 Q) := am_r_iastore d13_93
theorem r13_94  : am_Rn L xs d 13 94 ls st σ Q = am_la ls 0 (fun x => am_Rn L xs d 13 95 ls (x :: st) σ Q) := am_r_aload_n d13_94
theorem r13_95 {p : Nat} : am_Rn L xs d 13 95 ls (.ref p :: st) σ Q = am_fd σ p 1 1 (fun v => am_Rn L xs d 13 98 ls (v :: st) σ Q) := am_r_getfield d13_95 rfl
theorem r13_98  : am_Rn L xs d 13 98 ls st σ Q = am_li ls 1 (fun x => am_Rn L xs d 13 99 ls (.int x :: st) σ Q) := am_r_iload_n d13_98
theorem r13_99  : am_Rn L xs d 13 99 ls st σ Q = am_li ls 4 (fun x => am_Rn L xs d 13 101 ls (.int x :: st) σ Q) := am_r_iload d13_99
theorem r13_101 {p : Nat} {i x : Int32} : am_Rn L xs d 13 101 ls (.int x :: .int i :: .ref p :: st) σ Q = am_wi 0 σ p i x (fun σ1 => am_Rn L xs d 13 102 ls st σ1 Q) := am_r_iastore d13_101
theorem r13_102  : am_Rn L xs d 13 102 ls [] σ Q = Q none σ := am_r_return d13_102 rfl
theorem d15_0 : decode (pg_code 15) 0 = .ok (.aload_n 0, 1) := by decide +kernel
theorem d15_1 : decode (pg_code 15) 1 = .ok (.getfield 9, 3) := by decide +kernel
theorem d15_4 : decode (pg_code 15) 4 = .ok (.bipush (-2), 2) := by decide +kernel
theorem d15_6 : decode (pg_code 15) 6 = .ok (.invokestatic 24, 3) := by decide +kernel
theorem d15_9 : decode (pg_code 15) 9 = .ok (.aload_n 0, 1) := by decide +kernel
theorem d15_10 : decode (pg_code 15) 10 = .ok (.iconst 0, 1) := by decide +kernel
theorem d15_11 : decode (pg_code 15) 11 = .ok (.putfield 30, 3) := by decide +kernel
theorem d15_14 : decode (pg_code 15) 14 = .ok (.return_, 1) := by decide +kernel
theorem e15 {b1 : Value} : am_Call L xs d 15 [b1] σ Q = am_Rn L xs d 15 0 [b1] [] σ Q := rfl
theorem r15_0  : am_Rn L xs d 15 0 ls st σ Q = am_la ls 0 (fun x => am_Rn L xs d 15 1 ls (x :: st) σ Q) := am_r_aload_n d15_0
theorem r15_1 {p : Nat} : am_Rn L xs d 15 1 ls (.ref p :: st) σ Q = am_fd σ p 1 0 (fun v => am_Rn L xs d 15 4 ls (v :: st) σ Q) := am_r_getfield d15_1 rfl
theorem r15_4  : am_Rn L xs d 15 4 ls st σ Q = am_Rn L xs d 15 6 ls (.int (-2) :: st) σ Q := am_r_bipush d15_4 (by decide)
theorem r15_6 {a1 a2 : Value} : am_Rn L xs (d + 1) 15 6 ls (a2 :: a1 :: st) σ Q = ((st.length ≤ 4 ∧ am_ok a1 = true ∧ am_ok a2 = true) ∧ am_Call L xs d 2 [a1, a2] σ (fun r σ1 => am_Rn L xs (d + 1) 15 9 ls (r.toList ++ st) σ1 Q)) := am_R_static2 d15_6 rfl ⟨by decide, rfl⟩ rfl (by decide)
theorem r15_9  : am_Rn L xs d 15 9 ls st σ Q = am_la ls 0 (fun x => am_Rn L xs d 15 10 ls (x :: st) σ Q) := am_r_aload_n d15_9
theorem r15_10  : am_Rn L xs d 15 10 ls st σ Q = am_Rn L xs d 15 11 ls (.int 0 :: st) σ Q := am_r_iconst d15_10 (by decide)
theorem r15_11 {p : Nat} {v : Value} : am_Rn L xs d 15 11 ls (v :: .ref p :: st) σ Q = am_wf 15 1 σ p 1 4 v (fun σ1 => am_Rn L xs d 15 14 ls st σ1 Q) := am_r_putfield d15_11 rfl
theorem r15_14  : am_Rn L xs d 15 14 ls [] σ Q = Q none σ := am_r_return d15_14 rfl
theorem d18_0 : decode (pg_code 18) 0 = .ok (.aload_n 1, 1) := by decide +kernel
theorem d18_1 : decode (pg_code 18) 1 = .ok (.iconst 1, 1) := by decide +kernel
theorem d18_2 : decode (pg_code 18) 2 = .ok (.invokestatic 24, 3) := by decide +kernel
theorem d18_5 : decode (pg_code 18) 5 = .ok (.aload_n 0, 1) := by decide +kernel
theorem d18_6 : decode (pg_code 18) 6 = .ok (.getfield 30, 3) := by decide +kernel
theorem d18_9 : decode (pg_code 18) 9 = .ok (.iconst 1, 1) := by decide +kernel
theorem d18_10 : decode (pg_code 18) 10 = .ok (.isub, 1) := by decide +kernel
theorem d18_11 : decode (pg_code 18) 11 = .ok (.istore_n 2, 1) := by decide +kernel
theorem d18_12 : decode (pg_code 18) 12 = .ok (.iload_n 2, 1) := by decide +kernel
theorem d18_13 : decode (pg_code 18) 13 = .ok (.ifCond .le 33, 3) := by decide +kernel
theorem d18_16 : decode (pg_code 18) 16 = .ok (.aload_n 1, 1) := by decide +kernel
theorem d18_17 : decode (pg_code 18) 17 = .ok (.aload_n 0, 1) := by decide +kernel
theorem d18_18 : decode (pg_code 18) 18 = .ok (.getfield 9, 3) := by decide +kernel
theorem d18_21 : decode (pg_code 18) 21 = .ok (.iload_n 2, 1) := by decide +kernel
theorem d18_22 : decode (pg_code 18) 22 = .ok (.iaload, 1) := by decide +kernel
theorem d18_23 : decode (pg_code 18) 23 = .ok (.aload_n 1, 1) := by decide +kernel
theorem d18_24 : decode (pg_code 18) 24 = .ok (.aload_n 0, 1) := by decide +kernel
theorem d18_25 : decode (pg_code 18) 25 = .ok (.getfield 9, 3) := by decide +kernel
theorem d18_28 : decode (pg_code 18) 28 = .ok (.iload_n 2, 1) := by decide +kernel
theorem d18_29 : decode (pg_code 18) 29 = .ok (.iaload, 1) := by decide +kernel
theorem d18_30 : decode (pg_code 18) 30 = .ok (.iaload, 1) := by decide +kernel
theorem d18_31 : decode (pg_code 18) 31 = .ok (.aload_n 1, 1) := by decide +kernel
theorem d18_32 : decode (pg_code 18) 32 = .ok (.iload_n 2, 1) := by decide +kernel
theorem d18_33 : decode (pg_code 18) 33 = .ok (.iaload, 1) := by decide +kernel
theorem d18_34 : decode (pg_code 18) 34 = .ok (.iconst 1, 1) := by decide +kernel
theorem d18_35 : decode (pg_code 18) 35 = .ok (.iadd, 1) := by decide +kernel
theorem d18_36 : decode (pg_code 18) 36 = .ok (.invokestatic 49, 3) := by decide +kernel
theorem d18_39 : decode (pg_code 18) 39 = .ok (.iastore, 1) := by decide +kernel
theorem d18_40 : decode (pg_code 18) 40 = .ok (.iinc 2 (-1), 3) := by decide +kernel
theorem d18_43 : decode (pg_code 18) 43 = .ok (.goto (-31), 3) := by decide +kernel
theorem d18_46 : decode (pg_code 18) 46 = .ok (.return_, 1) := by decide +kernel
theorem e18 {b1 b2 : Value} : am_Call L xs d 18 [b1, b2] σ Q = am_Rn L xs d 18 0 [b1, b2, .retAddr 0] [] σ Q := rfl
theorem r18_0  : am_Rn L xs d 18 0 ls st σ Q = am_la ls 1 (fun x => am_Rn L xs d 18 1 ls (x :: st) σ Q) := am_r_aload_n d18_0
theorem r18_1  : am_Rn L xs d 18 1 ls st σ Q = am_Rn L xs d 18 2 ls (.int 1 :: st) σ Q := am_r_iconst d18_1 (by decide)
theorem r18_2 {a1 a2 : Value} : am_Rn L xs (d + 1) 18 2 ls (a2 :: a1 :: st) σ Q = ((st.length ≤ 4 ∧ am_ok a1 = true ∧ am_ok a2 = true) ∧ am_Call L xs d 2 [a1, a2] σ (fun r σ1 => am_Rn L xs (d + 1) 18 5 ls (r.toList ++ st) σ1 Q)) := am_R_static2 d18_2 rfl ⟨by decide, rfl⟩ rfl (by decide)
theorem r18_5  : am_Rn L xs d 18 5 ls st σ Q = am_la ls 0 (fun x => am_Rn L xs d 18 6 ls (x :: st) σ Q) := am_r_aload_n d18_5
theorem r18_6 {p : Nat} : am_Rn L xs d 18 6 ls (.ref p :: st) σ Q = am_fd σ p 1 4 (fun v => am_Rn L xs d 18 9 ls (v :: st) σ Q) := am_r_getfield d18_6 rfl
theorem r18_9  : am_Rn L xs d 18 9 ls st σ Q = am_Rn L xs d 18 10 ls (.int 1 :: st) σ Q := am_r_iconst d18_9 (by decide)
theorem r18_10 {a b : Int32} : am_Rn L xs d 18 10 ls (.int b :: .int a :: st) σ Q = am_Rn L xs d 18 11 ls (.int (a - b) :: st) σ Q := am_r_isub d18_10
theorem r18_11 {x : Int32} : am_Rn L xs d 18 11 ls (.int x :: st) σ Q = (2 < ls.length ∧ am_Rn L xs d 18 12 (ls.set 2 (.int x)) st σ Q) := am_r_istore_n d18_11
theorem r18_12  : am_Rn L xs d 18 12 ls st σ Q = am_li ls 2 (fun x => am_Rn L xs d 18 13 ls (.int x :: st) σ Q) := am_r_iload_n d18_12
theorem r18_13 {a : Int32} : am_Rn L xs d 18 13 ls (.int a :: st) σ Q = if a ≤ 0 then am_Rn L xs d 18 46 ls st σ Q else am_Rn L xs d 18 16 ls st σ Q := (am_r_if (t := 46) d18_13 (by decide)).trans (am_ite _ _ trivial (by simp only [am_cond, decide_eq_true_eq]))
theorem r18_16  : am_Rn L xs d 18 16 ls st σ Q = am_la ls 1 (fun x => am_Rn L xs d 18 17 ls (x :: st) σ Q) := am_r_aload_n d18_16
theorem r18_17  : am_Rn L xs d 18 17 ls st σ Q = am_la ls 0 (fun x => am_Rn L xs d 18 18 ls (x :: st) σ Q) := am_r_aload_n d18_17
theorem r18_18 {p : Nat} : am_Rn L xs d 18 18 ls (.ref p :: st) σ Q = am_fd σ p 1 0 (fun v => am_Rn L xs d 18 21 ls (v :: st) σ Q) := am_r_getfield d18_18 rfl
theorem r18_21  : am_Rn L xs d 18 21 ls st σ Q = am_li ls 2 (fun x => am_Rn L xs d 18 22 ls (.int x :: st) σ Q) := am_r_iload_n d18_21
theorem r18_22 {p : Nat} {i : Int32} : am_Rn L xs d 18 22 ls (.int i :: .ref p :: st) σ Q = am_ai 0 σ p i (fun x => am_Rn L xs d 18 23 ls (.int x :: st) σ Q) := am_r_iaload d18_22
theorem r18_23  : am_Rn L xs d 18 23 ls st σ Q = am_la ls 1 (fun x => am_Rn L xs d 18 24 ls (x :: st) σ Q) := am_r_aload_n d18_23
theorem r18_24  : am_Rn L xs d 18 24 ls st σ Q = am_la ls 0 (fun x => am_Rn L xs d 18 25 ls (x :: st) σ Q) := am_r_aload_n d18_24
theorem r18_25 {p : Nat} : am_Rn L xs d 18 25 ls (.ref p :: st) σ Q = am_fd σ p 1 0 (fun v => am_Rn L xs d 18 28 ls (v :: st) σ Q) := am_r_getfield d18_25 rfl
theorem r18_28  : am_Rn L xs d 18 28 ls st σ Q = am_li ls 2 (fun x => am_Rn L xs d 18 29 ls (.int x :: st) σ Q) := am_r_iload_n d18_28
theorem r18_29 {p : Nat} {i : Int32} : am_Rn L xs d 18 29 ls (.int i :: .ref p :: st) σ Q = am_ai 0 σ p i (fun x => am_Rn L xs d 18 30 ls (.int x :: st) σ Q) := am_r_iaload d18_29
theorem r18_30 {p : Nat} {i : Int32} : am_Rn L xs d 18 30 ls (.int i :: .ref p :: st) σ Q = am_ai 0 σ p i (fun x => am_Rn L xs d 18 31 ls (.int x :: st) σ Q) := am_r_iaload d18_30
theorem r18_31  : am_Rn L xs d 18 31 ls st σ Q = am_la ls 1 (fun x => am_Rn L xs d 18 32 ls (x :: st) σ Q) := am_r_aload_n d18_31
theorem r18_32  : am_Rn L xs d 18 32 ls st σ Q = am_li ls 2 (fun x => am_Rn L xs d 18 33 ls (.int x :: st) σ Q) := am_r_iload_n d18_32
theorem r18_33 {p : Nat} {i : Int32} : am_Rn L xs d 18 33 ls (.int i :: .ref p :: st) σ Q = am_ai 0 σ p i (fun x => am_Rn L xs d 18 34 ls (.int x :: st) σ Q) := am_r_iaload d18_33
theorem r18_34  : am_Rn L xs d 18 34 ls st σ Q = am_Rn L xs d 18 35 ls (.int 1 :: st) σ Q := am_r_iconst d18_34 (by decide)
theorem r18_35 {a b : Int32} : am_Rn L xs d 18 35 ls (.int b :: .int a :: st) σ Q = am_Rn L xs d 18 36 ls (.int (a + b) :: st) σ Q := am_r_iadd d18_35
theorem r18_36 {a b : Int32} (hr : st.length ≤ 8) : am_Rn L xs (d + 1) 18 36 ls (.int b :: .int a :: st) σ Q = am_Rn L xs (d + 1) 18 39 ls (.int (if a < b then b else a) :: st) σ Q := am_r_sp d18_36 (Or.inr ⟨rfl, by decide⟩) rfl (by decide) (if_pos hr)
theorem r18_39 {p : Nat} {i x : Int32} : am_Rn L xs d 18 39 ls (.int x :: .int i :: .ref p :: st) σ Q = am_wi 0 σ p i x (fun σ1 => am_Rn L xs d 18 40 ls st σ1 Q) := am_r_iastore d18_39
theorem r18_40  : am_Rn L xs d 18 40 ls st σ Q = am_li ls 2 (fun x => am_Rn L xs d 18 43 (ls.set 2 (.int (x + (-1)))) st σ Q) := am_r_iinc d18_40 (by decide)
theorem r18_43  : am_Rn L xs d 18 43 ls st σ Q = am_Rn L xs d 18 12 ls st σ Q := am_r_goto d18_43 (by decide)
theorem r18_46  : am_Rn L xs d 18 46 ls [] σ Q = Q none σ := am_r_return d18_46 rfl
theorem d20_0 : decode (pg_code 20) 0 = .ok (.iload 4, 2) := by decide +kernel
theorem d20_2 : decode (pg_code 20) 2 = .ok (.bipush 40, 2) := by decide +kernel
theorem d20_4 : decode (pg_code 20) 4 = .ok (.if_icmp .gt 19, 3) := by decide +kernel
theorem d20_7 : decode (pg_code 20) 7 = .ok (.aload_n 0, 1) := by decide +kernel
theorem d20_8 : decode (pg_code 20) 8 = .ok (.iload_n 1, 1) := by decide +kernel
theorem d20_9 : decode (pg_code 20) 9 = .ok (.invokevirtual 52, 3) := by decide +kernel
theorem d20_12 : decode (pg_code 20) 12 = .ok (.ifCond .eq 11, 3) := by decide +kernel
theorem d20_15 : decode (pg_code 20) 15 = .ok (.aload_n 2, 1) := by decide +kernel
theorem d20_16 : decode (pg_code 20) 16 = .ok (.iload_n 3, 1) := by decide +kernel
theorem d20_17 : decode (pg_code 20) 17 = .ok (.invokevirtual 52, 3) := by decide +kernel
theorem d20_20 : decode (pg_code 20) 20 = .ok (.ifCond .ne 5, 3) := by decide +kernel
theorem d20_23 : decode (pg_code 20) 23 = .ok (.iconst 0, 1) := by decide +kernel
theorem d20_24 : decode (pg_code 20) 24 = .ok (.ireturn, 1) := by decide +kernel
theorem d20_25 : decode (pg_code 20) 25 = .ok (.aload_n 0, 1) := by decide +kernel
theorem d20_26 : decode (pg_code 20) 26 = .ok (.getfield 18, 3) := by decide +kernel
theorem d20_29 : decode (pg_code 20) 29 = .ok (.iload_n 1, 1) := by decide +kernel
theorem d20_30 : decode (pg_code 20) 30 = .ok (.iaload, 1) := by decide +kernel
theorem d20_31 : decode (pg_code 20) 31 = .ok (.aload_n 2, 1) := by decide +kernel
theorem d20_32 : decode (pg_code 20) 32 = .ok (.getfield 18, 3) := by decide +kernel
theorem d20_35 : decode (pg_code 20) 35 = .ok (.iload_n 3, 1) := by decide +kernel
theorem d20_36 : decode (pg_code 20) 36 = .ok (.iaload, 1) := by decide +kernel
theorem d20_37 : decode (pg_code 20) 37 = .ok (.if_icmp .ne 18, 3) := by decide +kernel
theorem d20_40 : decode (pg_code 20) 40 = .ok (.aload_n 0, 1) := by decide +kernel
theorem d20_41 : decode (pg_code 20) 41 = .ok (.getfield 21, 3) := by decide +kernel
theorem d20_44 : decode (pg_code 20) 44 = .ok (.iload_n 1, 1) := by decide +kernel
theorem d20_45 : decode (pg_code 20) 45 = .ok (.iaload, 1) := by decide +kernel
theorem d20_46 : decode (pg_code 20) 46 = .ok (.aload_n 2, 1) := by decide +kernel
theorem d20_47 : decode (pg_code 20) 47 = .ok (.getfield 21, 3) := by decide +kernel
theorem d20_50 : decode (pg_code 20) 50 = .ok (.iload_n 3, 1) := by decide +kernel
theorem d20_51 : decode (pg_code 20) 51 = .ok (.iaload, 1) := by decide +kernel
theorem d20_52 : decode (pg_code 20) 52 = .ok (.if_icmp .eq 5, 3) := by decide +kernel
theorem d20_55 : decode (pg_code 20) 55 = .ok (.iconst 0, 1) := by decide +kernel
theorem d20_56 : decode (pg_code 20) 56 = .ok (.ireturn, 1) := by decide +kernel
theorem d20_57 : decode (pg_code 20) 57 = .ok (.aload_n 0, 1) := by decide +kernel
theorem d20_58 : decode (pg_code 20) 58 = .ok (.iload_n 1, 1) := by decide +kernel
theorem d20_59 : decode (pg_code 20) 59 = .ok (.invokevirtual 56, 3) := by decide +kernel
theorem d20_62 : decode (pg_code 20) 62 = .ok (.istore 5, 2) := by decide +kernel
theorem d20_64 : decode (pg_code 20) 64 = .ok (.iload 5, 2) := by decide +kernel
theorem d20_66 : decode (pg_code 20) 66 = .ok (.aload_n 2, 1) := by decide +kernel
theorem d20_67 : decode (pg_code 20) 67 = .ok (.iload_n 3, 1) := by decide +kernel
theorem d20_68 : decode (pg_code 20) 68 = .ok (.invokevirtual 56, 3) := by decide +kernel
theorem d20_71 : decode (pg_code 20) 71 = .ok (.if_icmp .eq 5, 3) := by decide +kernel
theorem d20_74 : decode (pg_code 20) 74 = .ok (.iconst 0, 1) := by decide +kernel
theorem d20_75 : decode (pg_code 20) 75 = .ok (.ireturn, 1) := by decide +kernel
theorem d20_76 : decode (pg_code 20) 76 = .ok (.iconst 0, 1) := by decide +kernel
theorem d20_77 : decode (pg_code 20) 77 = .ok (.istore 6, 2) := by decide +kernel
theorem d20_79 : decode (pg_code 20) 79 = .ok (.iload 6, 2) := by decide +kernel
theorem d20_81 : decode (pg_code 20) 81 = .ok (.iload 5, 2) := by decide +kernel
theorem d20_83 : decode (pg_code 20) 83 = .ok (.if_icmp .ge 37, 3) := by decide +kernel
theorem d20_86 : decode (pg_code 20) 86 = .ok (.aload_n 0, 1) := by decide +kernel
theorem d20_87 : decode (pg_code 20) 87 = .ok (.aload_n 0, 1) := by decide +kernel
theorem d20_88 : decode (pg_code 20) 88 = .ok (.iload_n 1, 1) := by decide +kernel
theorem d20_89 : decode (pg_code 20) 89 = .ok (.iload 6, 2) := by decide +kernel
theorem d20_91 : decode (pg_code 20) 91 = .ok (.invokevirtual 60, 3) := by decide +kernel
theorem d20_94 : decode (pg_code 20) 94 = .ok (.aload_n 2, 1) := by decide +kernel
theorem d20_95 : decode (pg_code 20) 95 = .ok (.aload_n 2, 1) := by decide +kernel
theorem d20_96 : decode (pg_code 20) 96 = .ok (.iload_n 3, 1) := by decide +kernel
theorem d20_97 : decode (pg_code 20) 97 = .ok (.iload 6, 2) := by decide +kernel
theorem d20_99 : decode (pg_code 20) 99 = .ok (.invokevirtual 60, 3) := by decide +kernel
theorem d20_102 : decode (pg_code 20) 102 = .ok (.iload 4, 2) := by decide +kernel
theorem d20_104 : decode (pg_code 20) 104 = .ok (.iconst 1, 1) := by decide +kernel
theorem d20_105 : decode (pg_code 20) 105 = .ok (.iadd, 1) := by decide +kernel
theorem d20_106 : decode (pg_code 20) 106 = .ok (.invokestatic 63, 3) := by decide +kernel
theorem d20_109 : decode (pg_code 20) 109 = .ok (.ifCond .ne 5, 3) := by decide +kernel
theorem d20_112 : decode (pg_code 20) 112 = .ok (.iconst 0, 1) := by decide +kernel
theorem d20_113 : decode (pg_code 20) 113 = .ok (.ireturn, 1) := by decide +kernel
theorem d20_114 : decode (pg_code 20) 114 = .ok (.iinc 6 1, 3) := by decide +kernel
theorem d20_117 : decode (pg_code 20) 117 = .ok (.goto (-38), 3) := by decide +kernel
theorem d20_120 : decode (pg_code 20) 120 = .ok (.iconst 1, 1) := by decide +kernel
theorem d20_121 : decode (pg_code 20) 121 = .ok (.ireturn, 1) := by decide +kernel
theorem e20 {b1 b2 b3 b4 b5 : Value} : am_Call L xs d 20 [b1, b2, b3, b4, b5] σ Q = am_Rn L xs d 20 0 [b1, b2, b3, b4, b5, .retAddr 0, .retAddr 0] [] σ Q := rfl
theorem r20_0  : am_Rn L xs d 20 0 ls st σ Q = am_li ls 4 (fun x => am_Rn L xs d 20 2 ls (.int x :: st) σ Q) := am_r_iload d20_0
theorem r20_2  : am_Rn L xs d 20 2 ls st σ Q = am_Rn L xs d 20 4 ls (.int 40 :: st) σ Q := am_r_bipush d20_2 (by decide)
theorem r20_4 {a b : Int32} : am_Rn L xs d 20 4 ls (.int b :: .int a :: st) σ Q = if b < a then am_Rn L xs d 20 23 ls st σ Q else am_Rn L xs d 20 7 ls st σ Q := (am_r_icmp (t := 23) d20_4 (by decide)).trans (am_ite _ _ trivial (by simp only [am_cond, decide_eq_true_eq]))
theorem r20_7  : am_Rn L xs d 20 7 ls st σ Q = am_la ls 0 (fun x => am_Rn L xs d 20 8 ls (x :: st) σ Q) := am_r_aload_n d20_7
theorem r20_8  : am_Rn L xs d 20 8 ls st σ Q = am_li ls 1 (fun x => am_Rn L xs d 20 9 ls (.int x :: st) σ Q) := am_r_iload_n d20_8
theorem r20_9 {a1 : Value} {p : Nat} : am_Rn L xs (d + 1) 20 9 ls (a1 :: .ref p :: st) σ Q = ((am_oc σ p = 1 ∧ st.length ≤ 4 ∧ am_ok a1 = true) ∧ am_Call L xs d 9 [.ref p, a1] σ (fun r σ1 => am_Rn L xs (d + 1) 20 12 ls (r.toList ++ st) σ1 Q)) := am_R_virtual1 d20_9 rfl ⟨by decide, rfl⟩ rfl rfl (by decide)
theorem r20_12 {a : Int32} : am_Rn L xs d 20 12 ls (.int a :: st) σ Q = if a = 0 then am_Rn L xs d 20 23 ls st σ Q else am_Rn L xs d 20 15 ls st σ Q := (am_r_if (t := 23) d20_12 (by decide)).trans (am_ite _ _ trivial (by simp only [am_cond, decide_eq_true_eq]))
theorem r20_15  : am_Rn L xs d 20 15 ls st σ Q = am_la ls 2 (fun x => am_Rn L xs d 20 16 ls (x :: st) σ Q) := am_r_aload_n d20_15
theorem r20_16  : am_Rn L xs d 20 16 ls st σ Q = am_li ls 3 (fun x => am_Rn L xs d 20 17 ls (.int x :: st) σ Q) := am_r_iload_n d20_16
theorem r20_17 {a1 : Value} {p : Nat} : am_Rn L xs (d + 1) 20 17 ls (a1 :: .ref p :: st) σ Q = ((am_oc σ p = 1 ∧ st.length ≤ 4 ∧ am_ok a1 = true) ∧ am_Call L xs d 9 [.ref p, a1] σ (fun r σ1 => am_Rn L xs (d + 1) 20 20 ls (r.toList ++ st) σ1 Q)) := am_R_virtual1 d20_17 rfl ⟨by decide, rfl⟩ rfl rfl (by decide)
theorem r20_20 {a : Int32} : am_Rn L xs d 20 20 ls (.int a :: st) σ Q = if ¬ a = 0 then am_Rn L xs d 20 25 ls st σ Q else am_Rn L xs d 20 23 ls st σ Q := (am_r_if (t := 25) d20_20 (by decide)).trans (am_ite _ _ trivial (by simp only [am_cond, decide_eq_true_eq]))
theorem r20_23  : am_Rn L xs d 20 23 ls st σ Q = am_Rn L xs d 20 24 ls (.int 0 :: st) σ Q := am_r_iconst d20_23 (by decide)
theorem r20_24 {v : Int32} (hv : v = 0 ∨ v = 1) : am_Rn L xs d 20 24 ls [.int v] σ Q = Q (some (.int v)) σ := am_r_zreturn d20_24 rfl hv
theorem r20_25  : am_Rn L xs d 20 25 ls st σ Q = am_la ls 0 (fun x => am_Rn L xs d 20 26 ls (x :: st) σ Q) := am_r_aload_n d20_25
theorem r20_26 {p : Nat} : am_Rn L xs d 20 26 ls (.ref p :: st) σ Q = am_fd σ p 1 2 (fun v => am_Rn L xs d 20 29 ls (v :: st) σ Q) := am_r_getfield d20_26 rfl
theorem r20_29  : am_Rn L xs d 20 29 ls st σ Q = am_li ls 1 (fun x => am_Rn L xs d 20 30 ls (.int x :: st) σ Q) := am_r_iload_n d20_29
theorem r20_30 {p : Nat} {i : Int32} : am_Rn L xs d 20 30 ls (.int i :: .ref p :: st) σ Q = am_ai 0 σ p i (fun x => am_Rn L xs d 20 31 ls (.int x :: st) σ Q) := am_r_iaload d20_30
theorem r20_31  : am_Rn L xs d 20 31 ls st σ Q = am_la ls 2 (fun x => am_Rn L xs d 20 32 ls (x :: st) σ Q) := am_r_aload_n d20_31
theorem r20_32 {p : Nat} : am_Rn L xs d 20 32 ls (.ref p :: st) σ Q = am_fd σ p 1 2 (fun v => am_Rn L xs d 20 35 ls (v :: st) σ Q) := am_r_getfield d20_32 rfl
theorem r20_35  : am_Rn L xs d 20 35 ls st σ Q = am_li ls 3 (fun x => am_Rn L xs d 20 36 ls (.int x :: st) σ Q) := am_r_iload_n d20_35
theorem r20_36 {p : Nat} {i : Int32} : am_Rn L xs d 20 36 ls (.int i :: .ref p :: st) σ Q = am_ai 0 σ p i (fun x => am_Rn L xs d 20 37 ls (.int x :: st) σ Q) := am_r_iaload d20_36
theorem r20_37 {a b : Int32} : am_Rn L xs d 20 37 ls (.int b :: .int a :: st) σ Q = if ¬ a = b then am_Rn L xs d 20 55 ls st σ Q else am_Rn L xs d 20 40 ls st σ Q := (am_r_icmp (t := 55) d20_37 (by decide)).trans (am_ite _ _ trivial (by simp only [am_cond, decide_eq_true_eq]))
theorem r20_40  : am_Rn L xs d 20 40 ls st σ Q = am_la ls 0 (fun x => am_Rn L xs d 20 41 ls (x :: st) σ Q) := am_r_aload_n d20_40
theorem r20_41 {p : Nat} : am_Rn L xs d 20 41 ls (.ref p :: st) σ Q = am_fd σ p 1 3 (fun v => am_Rn L xs d 20 44 ls (v :: st) σ Q) := am_r_getfield d20_41 rfl
theorem r20_44  : am_Rn L xs d 20 44 ls st σ Q = am_li ls 1 (fun x => am_Rn L xs d 20 45 ls (.int x :: st) σ Q) := am_r_iload_n d20_44
theorem r20_45 {p : Nat} {i : Int32} : am_Rn L xs d 20 45 ls (.int i :: .ref p :: st) σ Q = am_ai 0 σ p i (fun x => am_Rn L xs d 20 46 ls (.int x :: st) σ Q) := am_r_iaload d20_45
theorem r20_46  : am_Rn L xs d 20 46 ls st σ Q = am_la ls 2 (fun x => am_Rn L xs d 20 47 ls (x :: st) σ Q) := am_r_aload_n d20_46
theorem r20_47 {p : Nat} : am_Rn L xs d 20 47 ls (.ref p :: st) σ Q = am_fd σ p 1 3 (fun v => am_Rn L xs d 20 50 ls (v :: st) σ Q) := am_r_getfield d20_47 rfl
theorem r20_50  : am_Rn L xs d 20 50 ls st σ Q = am_li ls 3 (fun x => am_Rn L xs d 20 51 ls (.int x :: st) σ Q) := am_r_iload_n d20_50
theorem r20_51 {p : Nat} {i : Int32} : am_Rn L xs d 20 51 ls (.int i :: .ref p :: st) σ Q = am_ai 0 σ p i (fun x => am_Rn L xs d 20 52 ls (.int x :: st) σ Q) := am_r_iaload d20_51
theorem r20_52 {a b : Int32} : am_Rn L xs d 20 52 ls (.int b :: .int a :: st) σ Q = if a = b then am_Rn L xs d 20 57 ls st σ Q else am_Rn L xs d 20 55 ls st σ Q := (am_r_icmp (t := 57) d20_52 (by decide)).trans (am_ite _ _ trivial (by simp only [am_cond, decide_eq_true_eq]))
theorem r20_55  : am_Rn L xs d 20 55 ls st σ Q = am_Rn L xs d 20 56 ls (.int 0 :: st) σ Q := am_r_iconst d20_55 (by decide)
theorem r20_56 {v : Int32} (hv : v = 0 ∨ v = 1) : am_Rn L xs d 20 56 ls [.int v] σ Q = Q (some (.int v)) σ := am_r_zreturn d20_56 rfl hv
theorem r20_57  : am_Rn L xs d 20 57 ls st σ Q = am_la ls 0 (fun x => am_Rn L xs d 20 58 ls (x :: st) σ Q) := am_r_aload_n d20_57
theorem r20_58  : am_Rn L xs d 20 58 ls st σ Q = am_li ls 1 (fun x => am_Rn L xs d 20 59 ls (.int x :: st) σ Q) := am_r_iload_n d20_58
theorem r20_59 {a1 : Value} {p : Nat} : am_Rn L xs (d + 1) 20 59 ls (a1 :: .ref p :: st) σ Q = ((am_oc σ p = 1 ∧ st.length ≤ 4 ∧ am_ok a1 = true) ∧ am_Call L xs d 10 [.ref p, a1] σ (fun r σ1 => am_Rn L xs (d + 1) 20 62 ls (r.toList ++ st) σ1 Q)) := am_R_virtual1 d20_59 rfl ⟨by decide, rfl⟩ rfl rfl (by decide)
theorem r20_62 {x : Int32} : am_Rn L xs d 20 62 ls (.int x :: st) σ Q = (5 < ls.length ∧ am_Rn L xs d 20 64 (ls.set 5 (.int x)) st σ Q) := am_r_istore d20_62
theorem r20_64  : am_Rn L xs d 20 64 ls st σ Q = am_li ls 5 (fun x => am_Rn L xs d 20 66 ls (.int x :: st) σ Q) := am_r_iload d20_64
theorem r20_66  : am_Rn L xs d 20 66 ls st σ Q = am_la ls 2 (fun x => am_Rn L xs d 20 67 ls (x :: st) σ Q) := am_r_aload_n d20_66
theorem r20_67  : am_Rn L xs d 20 67 ls st σ Q = am_li ls 3 (fun x => am_Rn L xs d 20 68 ls (.int x :: st) σ Q) := am_r_iload_n d20_67
theorem r20_68 {a1 : Value} {p : Nat} : am_Rn L xs (d + 1) 20 68 ls (a1 :: .ref p :: st) σ Q = ((am_oc σ p = 1 ∧ st.length ≤ 4 ∧ am_ok a1 = true) ∧ am_Call L xs d 10 [.ref p, a1] σ (fun r σ1 => am_Rn L xs (d + 1) 20 71 ls (r.toList ++ st) σ1 Q)) := am_R_virtual1 d20_68 rfl ⟨by decide, rfl⟩ rfl rfl (by decide)
theorem r20_71 {a b : Int32} : am_Rn L xs d 20 71 ls (.int b :: .int a :: st) σ Q = if a = b then am_Rn L xs d 20 76 ls st σ Q else am_Rn L xs d 20 74 ls st σ Q := (am_r_icmp (t := 76) d20_71 (by decide)).trans (am_ite _ _ trivial (by simp only [am_cond, decide_eq_true_eq]))
theorem r20_74  : am_Rn L xs d 20 74 ls st σ Q = am_Rn L xs d 20 75 ls (.int 0 :: st) σ Q := am_r_iconst d20_74 (by decide)
theorem r20_75 {v : Int32} (hv : v = 0 ∨ v = 1) : am_Rn L xs d 20 75 ls [.int v] σ Q = Q (some (.int v)) σ := am_r_zreturn d20_75 rfl hv
theorem r20_76  : am_Rn L xs d 20 76 ls st σ Q = am_Rn L xs d 20 77 ls (.int 0 :: st) σ Q := am_r_iconst d20_76 (by decide)
theorem r20_77 {x : Int32} : am_Rn L xs d 20 77 ls (.int x :: st) σ Q = (6 < ls.length ∧ am_Rn L xs d 20 79 (ls.set 6 (.int x)) st σ Q) := am_r_istore d20_77
theorem r20_79  : am_Rn L xs d 20 79 ls st σ Q = am_li ls 6 (fun x => am_Rn L xs d 20 81 ls (.int x :: st) σ Q) := am_r_iload d20_79
theorem r20_81  : am_Rn L xs d 20 81 ls st σ Q = am_li ls 5 (fun x => am_Rn L xs d 20 83 ls (.int x :: st) σ Q) := am_r_iload d20_81
theorem r20_83 {a b : Int32} : am_Rn L xs d 20 83 ls (.int b :: .int a :: st) σ Q = if b ≤ a then am_Rn L xs d 20 120 ls st σ Q else am_Rn L xs d 20 86 ls st σ Q := (am_r_icmp (t := 120) d20_83 (by decide)).trans (am_ite _ _ trivial (by simp only [am_cond, decide_eq_true_eq]))
theorem r20_86  : am_Rn L xs d 20 86 ls st σ Q = am_la ls 0 (fun x => am_Rn L xs d 20 87 ls (x :: st) σ Q) := am_r_aload_n d20_86
theorem r20_87  : am_Rn L xs d 20 87 ls st σ Q = am_la ls 0 (fun x => am_Rn L xs d 20 88 ls (x :: st) σ Q) := am_r_aload_n d20_87
theorem r20_88  : am_Rn L xs d 20 88 ls st σ Q = am_li ls 1 (fun x => am_Rn L xs d 20 89 ls (.int x :: st) σ Q) := am_r_iload_n d20_88
theorem r20_89  : am_Rn L xs d 20 89 ls st σ Q = am_li ls 6 (fun x => am_Rn L xs d 20 91 ls (.int x :: st) σ Q) := am_r_iload d20_89
theorem r20_91 {a1 a2 : Value} {p : Nat} : am_Rn L xs (d + 1) 20 91 ls (a2 :: a1 :: .ref p :: st) σ Q = ((am_oc σ p = 1 ∧ st.length ≤ 4 ∧ am_ok a1 = true ∧ am_ok a2 = true) ∧ am_Call L xs d 11 [.ref p, a1, a2] σ (fun r σ1 => am_Rn L xs (d + 1) 20 94 ls (r.toList ++ st) σ1 Q)) := am_R_virtual2 d20_91 rfl ⟨by decide, rfl⟩ rfl rfl (by decide)
theorem r20_94  : am_Rn L xs d 20 94 ls st σ Q = am_la ls 2 (fun x => am_Rn L xs d 20 95 ls (x :: st) σ Q) := am_r_aload_n d20_94
theorem r20_95  : am_Rn L xs d 20 95 ls st σ Q = am_la ls 2 (fun x => am_Rn L xs d 20 96 ls (x :: st) σ Q) := am_r_aload_n d20_95
theorem r20_96  : am_Rn L xs d 20 96 ls st σ Q = am_li ls 3 (fun x => am_Rn L xs d 20 97 ls (.int x :: st) σ Q) := am_r_iload_n d20_96
theorem r20_97  : am_Rn L xs d 20 97 ls st σ Q = am_li ls 6 (fun x => am_Rn L xs d 20 99 ls (.int x :: st) σ Q) := am_r_iload d20_97
theorem r20_99 {a1 a2 : Value} {p : Nat} : am_Rn L xs (d + 1) 20 99 ls (a2 :: a1 :: .ref p :: st) σ Q = ((am_oc σ p = 1 ∧ st.length ≤ 4 ∧ am_ok a1 = true ∧ am_ok a2 = true) ∧ am_Call L xs d 11 [.ref p, a1, a2] σ (fun r σ1 => am_Rn L xs (d + 1) 20 102 ls (r.toList ++ st) σ1 Q)) := am_R_virtual2 d20_99 rfl ⟨by decide, rfl⟩ rfl rfl (by decide)
theorem r20_102  : am_Rn L xs d 20 102 ls st σ Q = am_li ls 4 (fun x => am_Rn L xs d 20 104 ls (.int x :: st) σ Q) := am_r_iload d20_102
theorem r20_104  : am_Rn L xs d 20 104 ls st σ Q = am_Rn L xs d 20 105 ls (.int 1 :: st) σ Q := am_r_iconst d20_104 (by decide)
theorem r20_105 {a b : Int32} : am_Rn L xs d 20 105 ls (.int b :: .int a :: st) σ Q = am_Rn L xs d 20 106 ls (.int (a + b) :: st) σ Q := am_r_iadd d20_105
theorem r20_106 {a1 a2 a3 a4 a5 : Value} : am_Rn L xs (d + 1) 20 106 ls (a5 :: a4 :: a3 :: a2 :: a1 :: st) σ Q = ((st.length ≤ 4 ∧ am_ok a1 = true ∧ am_ok a2 = true ∧ am_ok a3 = true ∧ am_ok a4 = true ∧ am_ok a5 = true) ∧ am_Call L xs d 20 [a1, a2, a3, a4, a5] σ (fun r σ1 => am_Rn L xs (d + 1) 20 109 ls (r.toList ++ st) σ1 Q)) := am_R_static5 d20_106 rfl ⟨by decide, rfl⟩ rfl (by decide)
theorem r20_109 {a : Int32} : am_Rn L xs d 20 109 ls (.int a :: st) σ Q = if ¬ a = 0 then am_Rn L xs d 20 114 ls st σ Q else am_Rn L xs d 20 112 ls st σ Q := (am_r_if (t := 114) d20_109 (by decide)).trans (am_ite _ _ trivial (by simp only [am_cond, decide_eq_true_eq]))
theorem r20_112  : am_Rn L xs d 20 112 ls st σ Q = am_Rn L xs d 20 113 ls (.int 0 :: st) σ Q := am_r_iconst d20_112 (by decide)
theorem r20_113 {v : Int32} (hv : v = 0 ∨ v = 1) : am_Rn L xs d 20 113 ls [.int v] σ Q = Q (some (.int v)) σ := am_r_zreturn d20_113 rfl hv
theorem r20_114  : am_Rn L xs d 20 114 ls st σ Q = am_li ls 6 (fun x => am_Rn L xs d 20 117 (ls.set 6 (.int (x + 1))) st σ Q) := am_r_iinc d20_114 (by decide)
theorem r20_117  : am_Rn L xs d 20 117 ls st σ Q = am_Rn L xs d 20 79 ls st σ Q := am_r_goto d20_117 (by decide)
theorem r20_120  : am_Rn L xs d 20 120 ls st σ Q = am_Rn L xs d 20 121 ls (.int 1 :: st) σ Q := am_r_iconst d20_120 (by decide)
theorem r20_121 {v : Int32} (hv : v = 0 ∨ v = 1) : am_Rn L xs d 20 121 ls [.int v] σ Q = Q (some (.int v)) σ := am_r_zreturn d20_121 rfl hv
theorem d23_0 : decode (pg_code 23) 0 = .ok (.aload_n 0, 1) := by decide +kernel
theorem d23_1 : decode (pg_code 23) 1 = .ok (.invokevirtual 34, 3) := by decide +kernel
theorem d23_4 : decode (pg_code 23) 4 = .ok (.aload_n 0, 1) := by decide +kernel
theorem d23_5 : decode (pg_code 23) 5 = .ok (.aload_n 1, 1) := by decide +kernel
theorem d23_6 : decode (pg_code 23) 6 = .ok (.getfield 30, 3) := by decide +kernel
theorem d23_9 : decode (pg_code 23) 9 = .ok (.aload_n 0, 1) := by decide +kernel
theorem d23_10 : decode (pg_code 23) 10 = .ok (.getfield 9, 3) := by decide +kernel
theorem d23_13 : decode (pg_code 23) 13 = .ok (.arraylength, 1) := by decide +kernel
theorem d23_14 : decode (pg_code 23) 14 = .ok (.invokestatic 37, 3) := by decide +kernel
theorem d23_17 : decode (pg_code 23) 17 = .ok (.putfield 30, 3) := by decide +kernel
theorem d23_20 : decode (pg_code 23) 20 = .ok (.aload_n 1, 1) := by decide +kernel
theorem d23_21 : decode (pg_code 23) 21 = .ok (.getfield 9, 3) := by decide +kernel
theorem d23_24 : decode (pg_code 23) 24 = .ok (.iconst 0, 1) := by decide +kernel
theorem d23_25 : decode (pg_code 23) 25 = .ok (.aload_n 0, 1) := by decide +kernel
theorem d23_26 : decode (pg_code 23) 26 = .ok (.getfield 9, 3) := by decide +kernel
theorem d23_29 : decode (pg_code 23) 29 = .ok (.iconst 0, 1) := by decide +kernel
theorem d23_30 : decode (pg_code 23) 30 = .ok (.aload_n 0, 1) := by decide +kernel
theorem d23_31 : decode (pg_code 23) 31 = .ok (.getfield 30, 3) := by decide +kernel
theorem d23_34 : decode (pg_code 23) 34 = .ok (.invokestatic 43, 3) := by decide +kernel
theorem d23_37 : decode (pg_code 23) 37 = .ok (.aload_n 1, 1) := by decide +kernel
theorem d23_38 : decode (pg_code 23) 38 = .ok (.getfield 15, 3) := by decide +kernel
theorem d23_41 : decode (pg_code 23) 41 = .ok (.iconst 0, 1) := by decide +kernel
theorem d23_42 : decode (pg_code 23) 42 = .ok (.aload_n 0, 1) := by decide +kernel
theorem d23_43 : decode (pg_code 23) 43 = .ok (.getfield 15, 3) := by decide +kernel
theorem d23_46 : decode (pg_code 23) 46 = .ok (.iconst 0, 1) := by decide +kernel
theorem d23_47 : decode (pg_code 23) 47 = .ok (.aload_n 0, 1) := by decide +kernel
theorem d23_48 : decode (pg_code 23) 48 = .ok (.getfield 30, 3) := by decide +kernel
theorem d23_51 : decode (pg_code 23) 51 = .ok (.invokestatic 43, 3) := by decide +kernel
theorem d23_54 : decode (pg_code 23) 54 = .ok (.aload_n 1, 1) := by decide +kernel
theorem d23_55 : decode (pg_code 23) 55 = .ok (.getfield 18, 3) := by decide +kernel
theorem d23_58 : decode (pg_code 23) 58 = .ok (.iconst 0, 1) := by decide +kernel
theorem d23_59 : decode (pg_code 23) 59 = .ok (.aload_n 0, 1) := by decide +kernel
theorem d23_60 : decode (pg_code 23) 60 = .ok (.getfield 18, 3) := by decide +kernel
theorem d23_63 : decode (pg_code 23) 63 = .ok (.iconst 0, 1) := by decide +kernel
theorem d23_64 : decode (pg_code 23) 64 = .ok (.aload_n 0, 1) := by decide +kernel
theorem d23_65 : decode (pg_code 23) 65 = .ok (.getfield 30, 3) := by decide +kernel
theorem d23_68 : decode (pg_code 23) 68 = .ok (.invokestatic 43, 3) := by decide +kernel
theorem d23_71 : decode (pg_code 23) 71 = .ok (.aload_n 1, 1) := by decide +kernel
theorem d23_72 : decode (pg_code 23) 72 = .ok (.getfield 21, 3) := by decide +kernel
theorem d23_75 : decode (pg_code 23) 75 = .ok (.iconst 0, 1) := by decide +kernel
theorem d23_76 : decode (pg_code 23) 76 = .ok (.aload_n 0, 1) := by decide +kernel
theorem d23_77 : decode (pg_code 23) 77 = .ok (.getfield 21, 3) := by decide +kernel
theorem d23_80 : decode (pg_code 23) 80 = .ok (.iconst 0, 1) := by decide +kernel
theorem d23_81 : decode (pg_code 23) 81 = .ok (.aload_n 0, 1) := by decide +kernel
theorem d23_82 : decode (pg_code 23) 82 = .ok (.getfield 30, 3) := by decide +kernel
theorem d23_85 : decode (pg_code 23) 85 = .ok (.invokestatic 43, 3) := by decide +kernel
theorem d23_88 : decode (pg_code 23) 88 = .ok (.return_, 1) := by decide +kernel
theorem e23 {b1 b2 : Value} : am_Call L xs d 23 [b1, b2] σ Q = am_Rn L xs d 23 0 [b1, b2] [] σ Q := rfl
theorem r23_0  : am_Rn L xs d 23 0 ls st σ Q = am_la ls 0 (fun x => am_Rn L xs d 23 1 ls (x :: st) σ Q) := am_r_aload_n d23_0
theorem r23_1 {p : Nat} : am_Rn L xs (d + 1) 23 1 ls (.ref p :: st) σ Q = ((am_oc σ p = 1 ∧ st.length ≤ 4) ∧ am_Call L xs d 15 [.ref p] σ (fun r σ1 => am_Rn L xs (d + 1) 23 4 ls (r.toList ++ st) σ1 Q)) := am_R_virtual0 d23_1 rfl ⟨by decide, rfl⟩ rfl rfl (by decide)
theorem r23_4  : am_Rn L xs d 23 4 ls st σ Q = am_la ls 0 (fun x => am_Rn L xs d 23 5 ls (x :: st) σ Q) := am_r_aload_n d23_4
theorem r23_5  : am_Rn L xs d 23 5 ls st σ Q = am_la ls 1 (fun x => am_Rn L xs d 23 6 ls (x :: st) σ Q) := am_r_aload_n d23_5
theorem r23_6 {p : Nat} : am_Rn L xs d 23 6 ls (.ref p :: st) σ Q = am_fd σ p 1 4 (fun v => am_Rn L xs d 23 9 ls (v :: st) σ Q) := am_r_getfield d23_6 rfl
theorem r23_9  : am_Rn L xs d 23 9 ls st σ Q = am_la ls 0 (fun x => am_Rn L xs d 23 10 ls (x :: st) σ Q) := am_r_aload_n d23_9
theorem r23_10 {p : Nat} : am_Rn L xs d 23 10 ls (.ref p :: st) σ Q = am_fd σ p 1 0 (fun v => am_Rn L xs d 23 13 ls (v :: st) σ Q) := am_r_getfield d23_10 rfl
theorem r23_13 {p : Nat} : am_Rn L xs d 23 13 ls (.ref p :: st) σ Q = am_ln σ p (fun x => am_Rn L xs d 23 14 ls (.int x :: st) σ Q) := am_r_arraylength d23_13
theorem r23_14 {a b : Int32} (hr : st.length ≤ 8) : am_Rn L xs (d + 1) 23 14 ls (.int b :: .int a :: st) σ Q = am_Rn L xs (d + 1) 23 17 ls (.int (if b < a then b else a) :: st) σ Q := am_r_sp d23_14 (Or.inr ⟨rfl, by decide⟩) rfl (by decide) (if_pos hr)
theorem r23_17 {p : Nat} {v : Value} : am_Rn L xs d 23 17 ls (v :: .ref p :: st) σ Q = am_wf 23 1 σ p 1 4 v (fun σ1 => am_Rn L xs d 23 20 ls st σ1 Q) := am_r_putfield d23_17 rfl
theorem r23_20  : am_Rn L xs d 23 20 ls st σ Q = am_la ls 1 (fun x => am_Rn L xs d 23 21 ls (x :: st) σ Q) := am_r_aload_n d23_20
theorem r23_21 {p : Nat} : am_Rn L xs d 23 21 ls (.ref p :: st) σ Q = am_fd σ p 1 0 (fun v => am_Rn L xs d 23 24 ls (v :: st) σ Q) := am_r_getfield d23_21 rfl
theorem r23_24  : am_Rn L xs d 23 24 ls st σ Q = am_Rn L xs d 23 25 ls (.int 0 :: st) σ Q := am_r_iconst d23_24 (by decide)
theorem r23_25  : am_Rn L xs d 23 25 ls st σ Q = am_la ls 0 (fun x => am_Rn L xs d 23 26 ls (x :: st) σ Q) := am_r_aload_n d23_25
theorem r23_26 {p : Nat} : am_Rn L xs d 23 26 ls (.ref p :: st) σ Q = am_fd σ p 1 0 (fun v => am_Rn L xs d 23 29 ls (v :: st) σ Q) := am_r_getfield d23_26 rfl
theorem r23_29  : am_Rn L xs d 23 29 ls st σ Q = am_Rn L xs d 23 30 ls (.int 0 :: st) σ Q := am_r_iconst d23_29 (by decide)
theorem r23_30  : am_Rn L xs d 23 30 ls st σ Q = am_la ls 0 (fun x => am_Rn L xs d 23 31 ls (x :: st) σ Q) := am_r_aload_n d23_30
theorem r23_31 {p : Nat} : am_Rn L xs d 23 31 ls (.ref p :: st) σ Q = am_fd σ p 1 4 (fun v => am_Rn L xs d 23 34 ls (v :: st) σ Q) := am_r_getfield d23_31 rfl
theorem r23_34 {p q n0 n1 : Nat} {f g : Nat → Int32} {n dp sp : Int32} (hp : σ[p]? = some (.inl (0, (n0, .inl f)))) (hq : σ[q]? = some (.inl (0, (n1, .inl g)))) (hc : st.length ≤ 8 ∧ ¬ sp < 0 ∧ ¬ dp < 0 ∧ ¬ n < 0 ∧ sp.toNatClampNeg + n.toNatClampNeg ≤ n0 ∧ dp.toNatClampNeg + n.toNatClampNeg ≤ n1) : am_Rn L xs (d + 1) 23 34 ls (.int n :: .int dp :: .ref q :: .int sp :: .ref p :: st) σ Q = am_Rn L xs (d + 1) 23 37 ls st (σ.set q (.inl (0, (n1, .inl (va_cpy f g sp.toNatClampNeg dp.toNatClampNeg n.toNatClampNeg))))) Q := am_r_sp d23_34 (Or.inr ⟨rfl, by decide⟩) rfl (by decide) (by simp only [am_sp, hp, hq]; exact if_pos hc)
theorem r23_37  : am_Rn L xs d 23 37 ls st σ Q = am_la ls 1 (fun x => am_Rn L xs d 23 38 ls (x :: st) σ Q) := am_r_aload_n d23_37
theorem r23_38 {p : Nat} : am_Rn L xs d 23 38 ls (.ref p :: st) σ Q = am_fd σ p 1 1 (fun v => am_Rn L xs d 23 41 ls (v :: st) σ Q) := am_r_getfield d23_38 rfl
theorem r23_41  : am_Rn L xs d 23 41 ls st σ Q = am_Rn L xs d 23 42 ls (.int 0 :: st) σ Q := am_r_iconst d23_41 (by decide)
theorem r23_42  : am_Rn L xs d 23 42 ls st σ Q = am_la ls 0 (fun x => am_Rn L xs d 23 43 ls (x :: st) σ Q) := am_r_aload_n d23_42
theorem r23_43 {p : Nat} : am_Rn L xs d 23 43 ls (.ref p :: st) σ Q = am_fd σ p 1 1 (fun v => am_Rn L xs d 23 46 ls (v :: st) σ Q) := am_r_getfield d23_43 rfl
theorem r23_46  : am_Rn L xs d 23 46 ls st σ Q = am_Rn L xs d 23 47 ls (.int 0 :: st) σ Q := am_r_iconst d23_46 (by decide)
theorem r23_47  : am_Rn L xs d 23 47 ls st σ Q = am_la ls 0 (fun x => am_Rn L xs d 23 48 ls (x :: st) σ Q) := am_r_aload_n d23_47
theorem r23_48 {p : Nat} : am_Rn L xs d 23 48 ls (.ref p :: st) σ Q = am_fd σ p 1 4 (fun v => am_Rn L xs d 23 51 ls (v :: st) σ Q) := am_r_getfield d23_48 rfl
theorem r23_51 {p q n0 n1 : Nat} {f g : Nat → Int32} {n dp sp : Int32} (hp : σ[p]? = some (.inl (0, (n0, .inl f)))) (hq : σ[q]? = some (.inl (0, (n1, .inl g)))) (hc : st.length ≤ 8 ∧ ¬ sp < 0 ∧ ¬ dp < 0 ∧ ¬ n < 0 ∧ sp.toNatClampNeg + n.toNatClampNeg ≤ n0 ∧ dp.toNatClampNeg + n.toNatClampNeg ≤ n1) : am_Rn L xs (d + 1) 23 51 ls (.int n :: .int dp :: .ref q :: .int sp :: .ref p :: st) σ Q = am_Rn L xs (d + 1) 23 54 ls st (σ.set q (.inl (0, (n1, .inl (va_cpy f g sp.toNatClampNeg dp.toNatClampNeg n.toNatClampNeg))))) Q := am_r_sp d23_51 (Or.inr ⟨rfl, by decide⟩) rfl (by decide) (by simp only [am_sp, hp, hq]; exact if_pos hc)
theorem r23_54  : am_Rn L xs d 23 54 ls st σ Q = am_la ls 1 (fun x => am_Rn L xs d 23 55 ls (x :: st) σ Q) := am_r_aload_n d23_54
theorem r23_55 {p : Nat} : am_Rn L xs d 23 55 ls (.ref p :: st) σ Q = am_fd σ p 1 2 (fun v => am_Rn L xs d 23 58 ls (v :: st) σ Q) := am_r_getfield d23_55 rfl
theorem r23_58  : am_Rn L xs d 23 58 ls st σ Q = am_Rn L xs d 23 59 ls (.int 0 :: st) σ Q := am_r_iconst d23_58 (by decide)
theorem r23_59  : am_Rn L xs d 23 59 ls st σ Q = am_la ls 0 (fun x => am_Rn L xs d 23 60 ls (x :: st) σ Q) := am_r_aload_n d23_59
theorem r23_60 {p : Nat} : am_Rn L xs d 23 60 ls (.ref p :: st) σ Q = am_fd σ p 1 2 (fun v => am_Rn L xs d 23 63 ls (v :: st) σ Q) := am_r_getfield d23_60 rfl
theorem r23_63  : am_Rn L xs d 23 63 ls st σ Q = am_Rn L xs d 23 64 ls (.int 0 :: st) σ Q := am_r_iconst d23_63 (by decide)
theorem r23_64  : am_Rn L xs d 23 64 ls st σ Q = am_la ls 0 (fun x => am_Rn L xs d 23 65 ls (x :: st) σ Q) := am_r_aload_n d23_64
theorem r23_65 {p : Nat} : am_Rn L xs d 23 65 ls (.ref p :: st) σ Q = am_fd σ p 1 4 (fun v => am_Rn L xs d 23 68 ls (v :: st) σ Q) := am_r_getfield d23_65 rfl
theorem r23_68 {p q n0 n1 : Nat} {f g : Nat → Int32} {n dp sp : Int32} (hp : σ[p]? = some (.inl (0, (n0, .inl f)))) (hq : σ[q]? = some (.inl (0, (n1, .inl g)))) (hc : st.length ≤ 8 ∧ ¬ sp < 0 ∧ ¬ dp < 0 ∧ ¬ n < 0 ∧ sp.toNatClampNeg + n.toNatClampNeg ≤ n0 ∧ dp.toNatClampNeg + n.toNatClampNeg ≤ n1) : am_Rn L xs (d + 1) 23 68 ls (.int n :: .int dp :: .ref q :: .int sp :: .ref p :: st) σ Q = am_Rn L xs (d + 1) 23 71 ls st (σ.set q (.inl (0, (n1, .inl (va_cpy f g sp.toNatClampNeg dp.toNatClampNeg n.toNatClampNeg))))) Q := am_r_sp d23_68 (Or.inr ⟨rfl, by decide⟩) rfl (by decide) (by simp only [am_sp, hp, hq]; exact if_pos hc)
theorem r23_71  : am_Rn L xs d 23 71 ls st σ Q = am_la ls 1 (fun x => am_Rn L xs d 23 72 ls (x :: st) σ Q) := am_r_aload_n d23_71
theorem r23_72 {p : Nat} : am_Rn L xs d 23 72 ls (.ref p :: st) σ Q = am_fd σ p 1 3 (fun v => am_Rn L xs d 23 75 ls (v :: st) σ Q) := am_r_getfield d23_72 rfl
theorem r23_75  : am_Rn L xs d 23 75 ls st σ Q = am_Rn L xs d 23 76 ls (.int 0 :: st) σ Q := am_r_iconst d23_75 (by decide)
theorem r23_76  : am_Rn L xs d 23 76 ls st σ Q = am_la ls 0 (fun x => am_Rn L xs d 23 77 ls (x :: st) σ Q) := am_r_aload_n d23_76
theorem r23_77 {p : Nat} : am_Rn L xs d 23 77 ls (.ref p :: st) σ Q = am_fd σ p 1 3 (fun v => am_Rn L xs d 23 80 ls (v :: st) σ Q) := am_r_getfield d23_77 rfl
theorem r23_80  : am_Rn L xs d 23 80 ls st σ Q = am_Rn L xs d 23 81 ls (.int 0 :: st) σ Q := am_r_iconst d23_80 (by decide)
theorem r23_81  : am_Rn L xs d 23 81 ls st σ Q = am_la ls 0 (fun x => am_Rn L xs d 23 82 ls (x :: st) σ Q) := am_r_aload_n d23_81
theorem r23_82 {p : Nat} : am_Rn L xs d 23 82 ls (.ref p :: st) σ Q = am_fd σ p 1 4 (fun v => am_Rn L xs d 23 85 ls (v :: st) σ Q) := am_r_getfield d23_82 rfl
theorem r23_85 {p q n0 n1 : Nat} {f g : Nat → Int32} {n dp sp : Int32} (hp : σ[p]? = some (.inl (0, (n0, .inl f)))) (hq : σ[q]? = some (.inl (0, (n1, .inl g)))) (hc : st.length ≤ 8 ∧ ¬ sp < 0 ∧ ¬ dp < 0 ∧ ¬ n < 0 ∧ sp.toNatClampNeg + n.toNatClampNeg ≤ n0 ∧ dp.toNatClampNeg + n.toNatClampNeg ≤ n1) : am_Rn L xs (d + 1) 23 85 ls (.int n :: .int dp :: .ref q :: .int sp :: .ref p :: st) σ Q = am_Rn L xs (d + 1) 23 88 ls st (σ.set q (.inl (0, (n1, .inl (va_cpy f g sp.toNatClampNeg dp.toNatClampNeg n.toNatClampNeg))))) Q := am_r_sp d23_85 (Or.inr ⟨rfl, by decide⟩) rfl (by decide) (by simp only [am_sp, hp, hq]; exact if_pos hc)
theorem r23_88  : am_Rn L xs d 23 88 ls [] σ Q = Q none σ := am_r_return d23_88 rfl
theorem d26_0 : decode (pg_code 26) 0 = .ok (.aload_n 1, 1) := by decide +kernel
theorem d26_1 : decode (pg_code 26) 1 = .ok (.iconst 0, 1) := by decide +kernel
theorem d26_2 : decode (pg_code 26) 2 = .ok (.invokestatic 24, 3) := by decide +kernel
theorem d26_5 : decode (pg_code 26) 5 = .ok (.aload_n 0, 1) := by decide +kernel
theorem d26_6 : decode (pg_code 26) 6 = .ok (.getfield 30, 3) := by decide +kernel
theorem d26_9 : decode (pg_code 26) 9 = .ok (.iconst 1, 1) := by decide +kernel
theorem d26_10 : decode (pg_code 26) 10 = .ok (.isub, 1) := by decide +kernel
theorem d26_11 : decode (pg_code 26) 11 = .ok (.istore_n 2, 1) := by decide +kernel
theorem d26_12 : decode (pg_code 26) 12 = .ok (.iload_n 2, 1) := by decide +kernel
theorem d26_13 : decode (pg_code 26) 13 = .ok (.ifCond .le 27, 3) := by decide +kernel
theorem d26_16 : decode (pg_code 26) 16 = .ok (.aload_n 1, 1) := by decide +kernel
theorem d26_17 : decode (pg_code 26) 17 = .ok (.aload_n 0, 1) := by decide +kernel
theorem d26_18 : decode (pg_code 26) 18 = .ok (.getfield 9, 3) := by decide +kernel
theorem d26_21 : decode (pg_code 26) 21 = .ok (.iload_n 2, 1) := by decide +kernel
theorem d26_22 : decode (pg_code 26) 22 = .ok (.iaload, 1) := by decide +kernel
theorem d26_23 : decode (pg_code 26) 23 = .ok (.dup2, 1) := by decide +kernel
theorem d26_24 : decode (pg_code 26) 24 = .ok (.iaload, 1) := by decide +kernel
theorem d26_25 : decode (pg_code 26) 25 = .ok (.aload_n 1, 1) := by decide +kernel
theorem d26_26 : decode (pg_code 26) 26 = .ok (.iload_n 2, 1) := by decide +kernel
theorem d26_27 : decode (pg_code 26) 27 = .ok (.iaload, 1) := by decide +kernel
theorem d26_28 : decode (pg_code 26) 28 = .ok (.iconst 1, 1) := by decide +kernel
theorem d26_29 : decode (pg_code 26) 29 = .ok (.iload_n 2, 1) := by decide +kernel
theorem d26_30 : decode (pg_code 26) 30 = .ok (.ishl, 1) := by decide +kernel
theorem d26_31 : decode (pg_code 26) 31 = .ok (.ior, 1) := by decide +kernel
theorem d26_32 : decode (pg_code 26) 32 = .ok (.ior, 1) := by decide +kernel
theorem d26_33 : decode (pg_code 26) 33 = .ok (.iastore, 1) := by decide +kernel
theorem d26_34 : decode (pg_code 26) 34 = .ok (.iinc 2 (-1), 3) := by decide +kernel
theorem d26_37 : decode (pg_code 26) 37 = .ok (.goto (-25), 3) := by decide +kernel
theorem d26_40 : decode (pg_code 26) 40 = .ok (.return_, 1) := by decide +kernel
theorem e26 {b1 b2 : Value} : am_Call L xs d 26 [b1, b2] σ Q = am_Rn L xs d 26 0 [b1, b2, .retAddr 0] [] σ Q := rfl
theorem r26_0  : am_Rn L xs d 26 0 ls st σ Q = am_la ls 1 (fun x => am_Rn L xs d 26 1 ls (x :: st) σ Q) := am_r_aload_n d26_0
theorem r26_1  : am_Rn L xs d 26 1 ls st σ Q = am_Rn L xs d 26 2 ls (.int 0 :: st) σ Q := am_r_iconst d26_1 (by decide)
theorem r26_2 {a1 a2 : Value} : am_Rn L xs (d + 1) 26 2 ls (a2 :: a1 :: st) σ Q = ((st.length ≤ 4 ∧ am_ok a1 = true ∧ am_ok a2 = true) ∧ am_Call L xs d 2 [a1, a2] σ (fun r σ1 => am_Rn L xs (d + 1) 26 5 ls (r.toList ++ st) σ1 Q)) := am_R_static2 d26_2 rfl ⟨by decide, rfl⟩ rfl (by decide)
theorem r26_5  : am_Rn L xs d 26 5 ls st σ Q = am_la ls 0 (fun x => am_Rn L xs d 26 6 ls (x :: st) σ Q) := am_r_aload_n d26_5
theorem r26_6 {p : Nat} : am_Rn L xs d 26 6 ls (.ref p :: st) σ Q = am_fd σ p 1 4 (fun v => am_Rn L xs d 26 9 ls (v :: st) σ Q) := am_r_getfield d26_6 rfl
theorem r26_9  : am_Rn L xs d 26 9 ls st σ Q = am_Rn L xs d 26 10 ls (.int 1 :: st) σ Q := am_r_iconst d26_9 (by decide)
theorem r26_10 {a b : Int32} : am_Rn L xs d 26 10 ls (.int b :: .int a :: st) σ Q = am_Rn L xs d 26 11 ls (.int (a - b) :: st) σ Q := am_r_isub d26_10
theorem r26_11 {x : Int32} : am_Rn L xs d 26 11 ls (.int x :: st) σ Q = (2 < ls.length ∧ am_Rn L xs d 26 12 (ls.set 2 (.int x)) st σ Q) := am_r_istore_n d26_11
theorem r26_12  : am_Rn L xs d 26 12 ls st σ Q = am_li ls 2 (fun x => am_Rn L xs d 26 13 ls (.int x :: st) σ Q) := am_r_iload_n d26_12
theorem r26_13 {a : Int32} : am_Rn L xs d 26 13 ls (.int a :: st) σ Q = if a ≤ 0 then am_Rn L xs d 26 40 ls st σ Q else am_Rn L xs d 26 16 ls st σ Q := (am_r_if (t := 40) d26_13 (by decide)).trans (am_ite _ _ trivial (by simp only [am_cond, decide_eq_true_eq]))
theorem r26_16  : am_Rn L xs d 26 16 ls st σ Q = am_la ls 1 (fun x => am_Rn L xs d 26 17 ls (x :: st) σ Q) := am_r_aload_n d26_16
theorem r26_17  : am_Rn L xs d 26 17 ls st σ Q = am_la ls 0 (fun x => am_Rn L xs d 26 18 ls (x :: st) σ Q) := am_r_aload_n d26_17
theorem r26_18 {p : Nat} : am_Rn L xs d 26 18 ls (.ref p :: st) σ Q = am_fd σ p 1 0 (fun v => am_Rn L xs d 26 21 ls (v :: st) σ Q) := am_r_getfield d26_18 rfl
theorem r26_21  : am_Rn L xs d 26 21 ls st σ Q = am_li ls 2 (fun x => am_Rn L xs d 26 22 ls (.int x :: st) σ Q) := am_r_iload_n d26_21
theorem r26_22 {p : Nat} {i : Int32} : am_Rn L xs d 26 22 ls (.int i :: .ref p :: st) σ Q = am_ai 0 σ p i (fun x => am_Rn L xs d 26 23 ls (.int x :: st) σ Q) := am_r_iaload d26_22
theorem r26_23 {a b : Value} : am_Rn L xs d 26 23 ls (a :: b :: st) σ Q = ((am_ok a && am_ok b) = true ∧ am_Rn L xs d 26 24 ls (a :: b :: a :: b :: st) σ Q) := am_r_dup2 d26_23
theorem r26_24 {p : Nat} {i : Int32} : am_Rn L xs d 26 24 ls (.int i :: .ref p :: st) σ Q = am_ai 0 σ p i (fun x => am_Rn L xs d 26 25 ls (.int x :: st) σ Q) := am_r_iaload d26_24
theorem r26_25  : am_Rn L xs d 26 25 ls st σ Q = am_la ls 1 (fun x => am_Rn L xs d 26 26 ls (x :: st) σ Q) := am_r_aload_n d26_25
theorem r26_26  : am_Rn L xs d 26 26 ls st σ Q = am_li ls 2 (fun x => am_Rn L xs d 26 27 ls (.int x :: st) σ Q) := am_r_iload_n d26_26
theorem r26_27 {p : Nat} {i : Int32} : am_Rn L xs d 26 27 ls (.int i :: .ref p :: st) σ Q = am_ai 0 σ p i (fun x => am_Rn L xs d 26 28 ls (.int x :: st) σ Q) := am_r_iaload d26_27
theorem r26_28  : am_Rn L xs d 26 28 ls st σ Q = am_Rn L xs d 26 29 ls (.int 1 :: st) σ Q := am_r_iconst d26_28 (by decide)
theorem r26_29  : am_Rn L xs d 26 29 ls st σ Q = am_li ls 2 (fun x => am_Rn L xs d 26 30 ls (.int x :: st) σ Q) := am_r_iload_n d26_29
theorem r26_30 {a b : Int32} : am_Rn L xs d 26 30 ls (.int b :: .int a :: st) σ Q = am_Rn L xs d 26 31 ls (.int (a <<< (b &&& 31)) :: st) σ Q := am_r_ishl d26_30
theorem r26_31 {a b : Int32} : am_Rn L xs d 26 31 ls (.int b :: .int a :: st) σ Q = am_Rn L xs d 26 32 ls (.int (a ||| b) :: st) σ Q := am_r_ior d26_31
theorem r26_32 {a b : Int32} : am_Rn L xs d 26 32 ls (.int b :: .int a :: st) σ Q = am_Rn L xs d 26 33 ls (.int (a ||| b) :: st) σ Q := am_r_ior d26_32
theorem r26_33 {p : Nat} {i x : Int32} : am_Rn L xs d 26 33 ls (.int x :: .int i :: .ref p :: st) σ Q = am_wi 0 σ p i x (fun σ1 => am_Rn L xs d 26 34 ls st σ1 Q) := am_r_iastore d26_33
theorem r26_34  : am_Rn L xs d 26 34 ls st σ Q = am_li ls 2 (fun x => am_Rn L xs d 26 37 (ls.set 2 (.int (x + (-1)))) st σ Q) := am_r_iinc d26_34 (by decide)
theorem r26_37  : am_Rn L xs d 26 37 ls st σ Q = am_Rn L xs d 26 12 ls st σ Q := am_r_goto d26_37 (by decide)
theorem r26_40  : am_Rn L xs d 26 40 ls [] σ Q = Q none σ := am_r_return d26_40 rfl
theorem d64_0 : decode (pg_code 64) 0 = .ok (.aload_n 0, 1) := by decide +kernel
theorem d64_1 : decode (pg_code 64) 1 = .ok (.iload_n 1, 1) := by decide +kernel
theorem d64_2 : decode (pg_code 64) 2 = .ok (.invokevirtual 52, 3) := by decide +kernel
theorem d64_5 : decode (pg_code 64) 5 = .ok (.ifCond .eq 10, 3) := by decide +kernel
theorem d64_8 : decode (pg_code 64) 8 = .ok (.aload_n 0, 1) := by decide +kernel
theorem d64_9 : decode (pg_code 64) 9 = .ok (.getfield 21, 3) := by decide +kernel
theorem d64_12 : decode (pg_code 64) 12 = .ok (.iload_n 1, 1) := by decide +kernel
theorem d64_13 : decode (pg_code 64) 13 = .ok (.iload_n 2, 1) := by decide +kernel
theorem d64_14 : decode (pg_code 64) 14 = .ok (.iastore, 1) := by decide +kernel
theorem d64_15 : decode (pg_code 64) 15 = .ok (.return_, 1) := by decide +kernel
theorem e64 {b1 b2 b3 : Value} : am_Call L xs d 64 [b1, b2, b3] σ Q = am_Rn L xs d 64 0 [b1, b2, b3] [] σ Q := rfl
theorem r64_0  : am_Rn L xs d 64 0 ls st σ Q = am_la ls 0 (fun x => am_Rn L xs d 64 1 ls (x :: st) σ Q) := am_r_aload_n d64_0
theorem r64_1  : am_Rn L xs d 64 1 ls st σ Q = am_li ls 1 (fun x => am_Rn L xs d 64 2 ls (.int x :: st) σ Q) := am_r_iload_n d64_1
theorem r64_2 {a1 : Value} {p : Nat} : am_Rn L xs (d + 1) 64 2 ls (a1 :: .ref p :: st) σ Q = ((am_oc σ p = 1 ∧ st.length ≤ 4 ∧ am_ok a1 = true) ∧ am_Call L xs d 9 [.ref p, a1] σ (fun r σ1 => am_Rn L xs (d + 1) 64 5 ls (r.toList ++ st) σ1 Q)) := am_R_virtual1 d64_2 rfl ⟨by decide, rfl⟩ rfl rfl (by decide)
theorem r64_5 {a : Int32} : am_Rn L xs d 64 5 ls (.int a :: st) σ Q = if a = 0 then am_Rn L xs d 64 15 ls st σ Q else am_Rn L xs d 64 8 ls st σ Q := (am_r_if (t := 15) d64_5 (by decide)).trans (am_ite _ _ trivial (by simp only [am_cond, decide_eq_true_eq]))
theorem r64_8  : am_Rn L xs d 64 8 ls st σ Q = am_la ls 0 (fun x => am_Rn L xs d 64 9 ls (x :: st) σ Q) := am_r_aload_n d64_8
theorem r64_9 {p : Nat} : am_Rn L xs d 64 9 ls (.ref p :: st) σ Q = am_fd σ p 1 3 (fun v => am_Rn L xs d 64 12 ls (v :: st) σ Q) := am_r_getfield d64_9 rfl
theorem r64_12  : am_Rn L xs d 64 12 ls st σ Q = am_li ls 1 (fun x => am_Rn L xs d 64 13 ls (.int x :: st) σ Q) := am_r_iload_n d64_12
theorem r64_13  : am_Rn L xs d 64 13 ls st σ Q = am_li ls 2 (fun x => am_Rn L xs d 64 14 ls (.int x :: st) σ Q) := am_r_iload_n d64_13
theorem r64_14 {p : Nat} {i x : Int32} : am_Rn L xs d 64 14 ls (.int x :: .int i :: .ref p :: st) σ Q = am_wi 0 σ p i x (fun σ1 => am_Rn L xs d 64 15 ls st σ1 Q) := am_r_iastore d64_14
theorem r64_15  : am_Rn L xs d 64 15 ls [] σ Q = Q none σ := am_r_return d64_15 rfl
theorem d65_0 : decode (pg_code 65) 0 = .ok (.aload_n 0, 1) := by decide +kernel
theorem d65_1 : decode (pg_code 65) 1 = .ok (.iload_n 1, 1) := by decide +kernel
theorem d65_2 : decode (pg_code 65) 2 = .ok (.invokevirtual 52, 3) := by decide +kernel
theorem d65_5 : decode (pg_code 65) 5 = .ok (.ifCond .ne 4, 3) := by decide +kernel
theorem d65_8 : decode (pg_code 65) 8 = .ok (.return_, 1) := by decide +kernel
theorem d65_9 : decode (pg_code 65) 9 = .ok (.iconst 0, 1) := by decide +kernel
theorem d65_10 : decode (pg_code 65) 10 = .ok (.istore_n 2, 1) := by decide +kernel
theorem d65_11 : decode (pg_code 65) 11 = .ok (.iload_n 2, 1) := by decide +kernel
theorem d65_12 : decode (pg_code 65) 12 = .ok (.aload_n 0, 1) := by decide +kernel
theorem d65_13 : decode (pg_code 65) 13 = .ok (.getfield 30, 3) := by decide +kernel
theorem d65_16 : decode (pg_code 65) 16 = .ok (.if_icmp .ge 49, 3) := by decide +kernel
theorem d65_19 : decode (pg_code 65) 19 = .ok (.aload_n 0, 1) := by decide +kernel
theorem d65_20 : decode (pg_code 65) 20 = .ok (.getfield 9, 3) := by decide +kernel
theorem d65_23 : decode (pg_code 65) 23 = .ok (.iload_n 2, 1) := by decide +kernel
theorem d65_24 : decode (pg_code 65) 24 = .ok (.iaload, 1) := by decide +kernel
theorem d65_25 : decode (pg_code 65) 25 = .ok (.aload_n 0, 1) := by decide +kernel
theorem d65_26 : decode (pg_code 65) 26 = .ok (.getfield 9, 3) := by decide +kernel
theorem d65_29 : decode (pg_code 65) 29 = .ok (.iload_n 1, 1) := by decide +kernel
theorem d65_30 : decode (pg_code 65) 30 = .ok (.iaload, 1) := by decide +kernel
theorem d65_31 : decode (pg_code 65) 31 = .ok (.if_icmp .ne 28, 3) := by decide +kernel
theorem d65_34 : decode (pg_code 65) 34 = .ok (.aload_n 0, 1) := by decide +kernel
theorem d65_35 : decode (pg_code 65) 35 = .ok (.getfield 15, 3) := by decide +kernel
theorem d65_38 : decode (pg_code 65) 38 = .ok (.iload_n 2, 1) := by decide +kernel
theorem d65_39 : decode (pg_code 65) 39 = .ok (.iaload, 1) := by decide +kernel
theorem d65_40 : decode (pg_code 65) 40 = .ok (.aload_n 0, 1) := by decide +kernel
theorem d65_41 : decode (pg_code 65) 41 = .ok (.getfield 15, 3) := by decide +kernel
theorem d65_44 : decode (pg_code 65) 44 = .ok (.iload_n 1, 1) := by decide +kernel
theorem d65_45 : decode (pg_code 65) 45 = .ok (.iaload, 1) := by decide +kernel
theorem d65_46 : decode (pg_code 65) 46 = .ok (.if_icmp .le 13, 3) := by decide +kernel
theorem d65_49 : decode (pg_code 65) 49 = .ok (.aload_n 0, 1) := by decide +kernel
theorem d65_50 : decode (pg_code 65) 50 = .ok (.getfield 15, 3) := by decide +kernel
theorem d65_53 : decode (pg_code 65) 53 = .ok (.iload_n 2, 1) := by decide +kernel
theorem d65_54 : decode (pg_code 65) 54 = .ok (.dup2, 1) := by decide +kernel
theorem d65_55 : decode (pg_code 65) 55 = .ok (.iaload, 1) := by decide +kernel
theorem d65_56 : decode (pg_code 65) 56 = .ok (.iconst 1, 1) := by decide +kernel
theorem d65_57 : decode (pg_code 65) 57 = .ok (.isub, 1) := by decide +kernel
theorem d65_58 : decode (pg_code 65) 58 = .ok (.iastore, 1) := by decide +kernel
theorem d65_59 : decode (pg_code 65) 59 = .ok (.iinc 2 1, 3) := by decide +kernel
theorem d65_62 : decode (pg_code 65) 62 = .ok (.goto (-51), 3) := by decide +kernel
theorem d65_65 : decode (pg_code 65) 65 = .ok (.aload_n 0, 1) := by decide +kernel
theorem d65_66 : decode (pg_code 65) 66 = .ok (.getfield 9, 3) := by decide +kernel
theorem d65_69 : decode (pg_code 65) 69 = .ok (.iload_n 1, 1) := by decide +kernel
theorem d65_70 : decode (pg_code 65) 70 = .ok (.bipush (-2), 2) := by decide +kernel
theorem d65_72 : decode (pg_code 65) 72 = .ok (.iastore, 1) := by decide +kernel
theorem d65_73 : decode (pg_code 65) 73 = .ok (.return_, 1) := by decide +kernel
theorem e65 {b1 b2 : Value} : am_Call L xs d 65 [b1, b2] σ Q = am_Rn L xs d 65 0 [b1, b2, .retAddr 0] [] σ Q := rfl
theorem r65_0  : am_Rn L xs d 65 0 ls st σ Q = am_la ls 0 (fun x => am_Rn L xs d 65 1 ls (x :: st) σ Q) := am_r_aload_n d65_0
theorem r65_1  : am_Rn L xs d 65 1 ls st σ Q = am_li ls 1 (fun x => am_Rn L xs d 65 2 ls (.int x :: st) σ Q) := am_r_iload_n d65_1
theorem r65_2 {a1 : Value} {p : Nat} : am_Rn L xs (d + 1) 65 2 ls (a1 :: .ref p :: st) σ Q = ((am_oc σ p = 1 ∧ st.length ≤ 4 ∧ am_ok a1 = true) ∧ am_Call L xs d 9 [.ref p, a1] σ (fun r σ1 => am_Rn L xs (d + 1) 65 5 ls (r.toList ++ st) σ1 Q)) := am_R_virtual1 d65_2 rfl ⟨by decide, rfl⟩ rfl rfl (by decide)
theorem r65_5 {a : Int32} : am_Rn L xs d 65 5 ls (.int a :: st) σ Q = if ¬ a = 0 then am_Rn L xs d 65 9 ls st σ Q else am_Rn L xs d 65 8 ls st σ Q := (am_r_if (t := 9) d65_5 (by decide)).trans (am_ite _ _ trivial (by simp only [am_cond, decide_eq_true_eq]))
theorem r65_8  : am_Rn L xs d 65 8 ls [] σ Q = Q none σ := am_r_return d65_8 rfl
theorem r65_9  : am_Rn L xs d 65 9 ls st σ Q = am_Rn L xs d 65 10 ls (.int 0 :: st) σ Q := am_r_iconst d65_9 (by decide)
theorem r65_10 {x : Int32} : am_Rn L xs d 65 10 ls (.int x :: st) σ Q = (2 < ls.length ∧ am_Rn L xs d 65 11 (ls.set 2 (.int x)) st σ Q) := am_r_istore_n d65_10
theorem r65_11  : am_Rn L xs d 65 11 ls st σ Q = am_li ls 2 (fun x => am_Rn L xs d 65 12 ls (.int x :: st) σ Q) := am_r_iload_n d65_11
theorem r65_12  : am_Rn L xs d 65 12 ls st σ Q = am_la ls 0 (fun x => am_Rn L xs d 65 13 ls (x :: st) σ Q) := am_r_aload_n d65_12
theorem r65_13 {p : Nat} : am_Rn L xs d 65 13 ls (.ref p :: st) σ Q = am_fd σ p 1 4 (fun v => am_Rn L xs d 65 16 ls (v :: st) σ Q) := am_r_getfield d65_13 rfl
theorem r65_16 {a b : Int32} : am_Rn L xs d 65 16 ls (.int b :: .int a :: st) σ Q = if b ≤ a then am_Rn L xs d 65 65 ls st σ Q else am_Rn L xs d 65 19 ls st σ Q := (am_r_icmp (t := 65) d65_16 (by decide)).trans (am_ite _ _ trivial (by simp only [am_cond, decide_eq_true_eq]))
theorem r65_19  : am_Rn L xs d 65 19 ls st σ Q = am_la ls 0 (fun x => am_Rn L xs d 65 20 ls (x :: st) σ Q) := am_r_aload_n d65_19
theorem r65_20 {p : Nat} : am_Rn L xs d 65 20 ls (.ref p :: st) σ Q = am_fd σ p 1 0 (fun v => am_Rn L xs d 65 23 ls (v :: st) σ Q) := am_r_getfield d65_20 rfl
theorem r65_23  : am_Rn L xs d 65 23 ls st σ Q = am_li ls 2 (fun x => am_Rn L xs d 65 24 ls (.int x :: st) σ Q) := am_r_iload_n d65_23
theorem r65_24 {p : Nat} {i : Int32} : am_Rn L xs d 65 24 ls (.int i :: .ref p :: st) σ Q = am_ai 0 σ p i (fun x => am_Rn L xs d 65 25 ls (.int x :: st) σ Q) := am_r_iaload d65_24
theorem r65_25  : am_Rn L xs d 65 25 ls st σ Q = am_la ls 0 (fun x => am_Rn L xs d 65 26 ls (x :: st) σ Q) := am_r_aload_n d65_25
theorem r65_26 {p : Nat} : am_Rn L xs d 65 26 ls (.ref p :: st) σ Q = am_fd σ p 1 0 (fun v => am_Rn L xs d 65 29 ls (v :: st) σ Q) := am_r_getfield d65_26 rfl
theorem r65_29  : am_Rn L xs d 65 29 ls st σ Q = am_li ls 1 (fun x => am_Rn L xs d 65 30 ls (.int x :: st) σ Q) := am_r_iload_n d65_29
theorem r65_30 {p : Nat} {i : Int32} : am_Rn L xs d 65 30 ls (.int i :: .ref p :: st) σ Q = am_ai 0 σ p i (fun x => am_Rn L xs d 65 31 ls (.int x :: st) σ Q) := am_r_iaload d65_30
theorem r65_31 {a b : Int32} : am_Rn L xs d 65 31 ls (.int b :: .int a :: st) σ Q = if ¬ a = b then am_Rn L xs d 65 59 ls st σ Q else am_Rn L xs d 65 34 ls st σ Q := (am_r_icmp (t := 59) d65_31 (by decide)).trans (am_ite _ _ trivial (by simp only [am_cond, decide_eq_true_eq]))
theorem r65_34  : am_Rn L xs d 65 34 ls st σ Q = am_la ls 0 (fun x => am_Rn L xs d 65 35 ls (x :: st) σ Q) := am_r_aload_n d65_34
theorem r65_35 {p : Nat} : am_Rn L xs d 65 35 ls (.ref p :: st) σ Q = am_fd σ p 1 1 (fun v => am_Rn L xs d 65 38 ls (v :: st) σ Q) := am_r_getfield d65_35 rfl
theorem r65_38  : am_Rn L xs d 65 38 ls st σ Q = am_li ls 2 (fun x => am_Rn L xs d 65 39 ls (.int x :: st) σ Q) := am_r_iload_n d65_38
theorem r65_39 {p : Nat} {i : Int32} : am_Rn L xs d 65 39 ls (.int i :: .ref p :: st) σ Q = am_ai 0 σ p i (fun x => am_Rn L xs d 65 40 ls (.int x :: st) σ Q) := am_r_iaload d65_39
theorem r65_40  : am_Rn L xs d 65 40 ls st σ Q = am_la ls 0 (fun x => am_Rn L xs d 65 41 ls (x :: st) σ Q) := am_r_aload_n d65_40
theorem r65_41 {p : Nat} : am_Rn L xs d 65 41 ls (.ref p :: st) σ Q = am_fd σ p 1 1 (fun v => am_Rn L xs d 65 44 ls (v :: st) σ Q) := am_r_getfield d65_41 rfl
theorem r65_44  : am_Rn L xs d 65 44 ls st σ Q = am_li ls 1 (fun x => am_Rn L xs d 65 45 ls (.int x :: st) σ Q) := am_r_iload_n d65_44
theorem r65_45 {p : Nat} {i : Int32} : am_Rn L xs d 65 45 ls (.int i :: .ref p :: st) σ Q = am_ai 0 σ p i (fun x => am_Rn L xs d 65 46 ls (.int x :: st) σ Q) := am_r_iaload d65_45
theorem r65_46 {a b : Int32} : am_Rn L xs d 65 46 ls (.int b :: .int a :: st) σ Q = if a ≤ b then am_Rn L xs d 65 59 ls st σ Q else am_Rn L xs d 65 49 ls st σ Q := (am_r_icmp (t := 59) d65_46 (by decide)).trans (am_ite _ _ trivial (by simp only [am_cond, decide_eq_true_eq]))
theorem r65_49  : am_Rn L xs d 65 49 ls st σ Q = am_la ls 0 (fun x => am_Rn L xs d 65 50 ls (x :: st) σ Q) := am_r_aload_n d65_49
theorem r65_50 {p : Nat} : am_Rn L xs d 65 50 ls (.ref p :: st) σ Q = am_fd σ p 1 1 (fun v => am_Rn L xs d 65 53 ls (v :: st) σ Q) := am_r_getfield d65_50 rfl
theorem r65_53  : am_Rn L xs d 65 53 ls st σ Q = am_li ls 2 (fun x => am_Rn L xs d 65 54 ls (.int x :: st) σ Q) := am_r_iload_n d65_53
theorem r65_54 {a b : Value} : am_Rn L xs d 65 54 ls (a :: b :: st) σ Q = ((am_ok a && am_ok b) = true ∧ am_Rn L xs d 65 55 ls (a :: b :: a :: b :: st) σ Q) := am_r_dup2 d65_54
theorem r65_55 {p : Nat} {i : Int32} : am_Rn L xs d 65 55 ls (.int i :: .ref p :: st) σ Q = am_ai 0 σ p i (fun x => am_Rn L xs d 65 56 ls (.int x :: st) σ Q) := am_r_iaload d65_55
theorem r65_56  : am_Rn L xs d 65 56 ls st σ Q = am_Rn L xs d 65 57 ls (.int 1 :: st) σ Q := am_r_iconst d65_56 (by decide)
theorem r65_57 {a b : Int32} : am_Rn L xs d 65 57 ls (.int b :: .int a :: st) σ Q = am_Rn L xs d 65 58 ls (.int (a - b) :: st) σ Q := am_r_isub d65_57
theorem r65_58 {p : Nat} {i x : Int32} : am_Rn L xs d 65 58 ls (.int x :: .int i :: .ref p :: st) σ Q = am_wi 0 σ p i x (fun σ1 => am_Rn L xs d 65 59 ls st σ1 Q) := am_r_iastore d65_58
theorem r65_59  : am_Rn L xs d 65 59 ls st σ Q = am_li ls 2 (fun x => am_Rn L xs d 65 62 (ls.set 2 (.int (x + 1))) st σ Q) := am_r_iinc d65_59 (by decide)
theorem r65_62  : am_Rn L xs d 65 62 ls st σ Q = am_Rn L xs d 65 11 ls st σ Q := am_r_goto d65_62 (by decide)
theorem r65_65  : am_Rn L xs d 65 65 ls st σ Q = am_la ls 0 (fun x => am_Rn L xs d 65 66 ls (x :: st) σ Q) := am_r_aload_n d65_65
theorem r65_66 {p : Nat} : am_Rn L xs d 65 66 ls (.ref p :: st) σ Q = am_fd σ p 1 0 (fun v => am_Rn L xs d 65 69 ls (v :: st) σ Q) := am_r_getfield d65_66 rfl
theorem r65_69  : am_Rn L xs d 65 69 ls st σ Q = am_li ls 1 (fun x => am_Rn L xs d 65 70 ls (.int x :: st) σ Q) := am_r_iload_n d65_69
theorem r65_70  : am_Rn L xs d 65 70 ls st σ Q = am_Rn L xs d 65 72 ls (.int (-2) :: st) σ Q := am_r_bipush d65_70 (by decide)
theorem r65_72 {p : Nat} {i x : Int32} : am_Rn L xs d 65 72 ls (.int x :: .int i :: .ref p :: st) σ Q = am_wi 0 σ p i x (fun σ1 => am_Rn L xs d 65 73 ls st σ1 Q) := am_r_iastore d65_72
theorem r65_73  : am_Rn L xs d 65 73 ls [] σ Q = Q none σ := am_r_return d65_73 rfl
theorem d66_0 : decode (pg_code 66) 0 = .ok (.iconst 0, 1) := by decide +kernel
theorem d66_1 : decode (pg_code 66) 1 = .ok (.istore_n 1, 1) := by decide +kernel
theorem d66_2 : decode (pg_code 66) 2 = .ok (.iconst 0, 1) := by decide +kernel
theorem d66_3 : decode (pg_code 66) 3 = .ok (.istore_n 2, 1) := by decide +kernel
theorem d66_4 : decode (pg_code 66) 4 = .ok (.iload_n 2, 1) := by decide +kernel
theorem d66_5 : decode (pg_code 66) 5 = .ok (.aload_n 0, 1) := by decide +kernel
theorem d66_6 : decode (pg_code 66) 6 = .ok (.getfield 30, 3) := by decide +kernel
theorem d66_9 : decode (pg_code 66) 9 = .ok (.if_icmp .ge 23, 3) := by decide +kernel
theorem d66_12 : decode (pg_code 66) 12 = .ok (.aload_n 0, 1) := by decide +kernel
theorem d66_13 : decode (pg_code 66) 13 = .ok (.getfield 9, 3) := by decide +kernel
theorem d66_16 : decode (pg_code 66) 16 = .ok (.iload_n 2, 1) := by decide +kernel
theorem d66_17 : decode (pg_code 66) 17 = .ok (.iaload, 1) := by decide +kernel
theorem d66_18 : decode (pg_code 66) 18 = .ok (.bipush (-2), 2) := by decide +kernel
theorem d66_20 : decode (pg_code 66) 20 = .ok (.if_icmp .eq 6, 3) := by decide +kernel
theorem d66_23 : decode (pg_code 66) 23 = .ok (.iinc 1 1, 3) := by decide +kernel
theorem d66_26 : decode (pg_code 66) 26 = .ok (.iinc 2 1, 3) := by decide +kernel
theorem d66_29 : decode (pg_code 66) 29 = .ok (.goto (-25), 3) := by decide +kernel
theorem d66_32 : decode (pg_code 66) 32 = .ok (.iload_n 1, 1) := by decide +kernel
theorem d66_33 : decode (pg_code 66) 33 = .ok (.ireturn, 1) := by decide +kernel
theorem e66 {b1 : Value} : am_Call L xs d 66 [b1] σ Q = am_Rn L xs d 66 0 [b1, .retAddr 0, .retAddr 0] [] σ Q := rfl
theorem r66_0  : am_Rn L xs d 66 0 ls st σ Q = am_Rn L xs d 66 1 ls (.int 0 :: st) σ Q := am_r_iconst d66_0 (by decide)
theorem r66_1 {x : Int32} : am_Rn L xs d 66 1 ls (.int x :: st) σ Q = (1 < ls.length ∧ am_Rn L xs d 66 2 (ls.set 1 (.int x)) st σ Q) := am_r_istore_n d66_1
theorem r66_2  : am_Rn L xs d 66 2 ls st σ Q = am_Rn L xs d 66 3 ls (.int 0 :: st) σ Q := am_r_iconst d66_2 (by decide)
theorem r66_3 {x : Int32} : am_Rn L xs d 66 3 ls (.int x :: st) σ Q = (2 < ls.length ∧ am_Rn L xs d 66 4 (ls.set 2 (.int x)) st σ Q) := am_r_istore_n d66_3
theorem r66_4  : am_Rn L xs d 66 4 ls st σ Q = am_li ls 2 (fun x => am_Rn L xs d 66 5 ls (.int x :: st) σ Q) := am_r_iload_n d66_4
theorem r66_5  : am_Rn L xs d 66 5 ls st σ Q = am_la ls 0 (fun x => am_Rn L xs d 66 6 ls (x :: st) σ Q) := am_r_aload_n d66_5
theorem r66_6 {p : Nat} : am_Rn L xs d 66 6 ls (.ref p :: st) σ Q = am_fd σ p 1 4 (fun v => am_Rn L xs d 66 9 ls (v :: st) σ Q) := am_r_getfield d66_6 rfl
theorem r66_9 {a b : Int32} : am_Rn L xs d 66 9 ls (.int b :: .int a :: st) σ Q = if b ≤ a then am_Rn L xs d 66 32 ls st σ Q else am_Rn L xs d 66 12 ls st σ Q := (am_r_icmp (t := 32) d66_9 (by decide)).trans (am_ite _ _ trivial (by simp only [am_cond, decide_eq_true_eq]))
theorem r66_12  : am_Rn L xs d 66 12 ls st σ Q = am_la ls 0 (fun x => am_Rn L xs d 66 13 ls (x :: st) σ Q) := am_r_aload_n d66_12
theorem r66_13 {p : Nat} : am_Rn L xs d 66 13 ls (.ref p :: st) σ Q = am_fd σ p 1 0 (fun v => am_Rn L xs d 66 16 ls (v :: st) σ Q) := am_r_getfield d66_13 rfl
theorem r66_16  : am_Rn L xs d 66 16 ls st σ Q = am_li ls 2 (fun x => am_Rn L xs d 66 17 ls (.int x :: st) σ Q) := am_r_iload_n d66_16
theorem r66_17 {p : Nat} {i : Int32} : am_Rn L xs d 66 17 ls (.int i :: .ref p :: st) σ Q = am_ai 0 σ p i (fun x => am_Rn L xs d 66 18 ls (.int x :: st) σ Q) := am_r_iaload d66_17
theorem r66_18  : am_Rn L xs d 66 18 ls st σ Q = am_Rn L xs d 66 20 ls (.int (-2) :: st) σ Q := am_r_bipush d66_18 (by decide)
theorem r66_20 {a b : Int32} : am_Rn L xs d 66 20 ls (.int b :: .int a :: st) σ Q = if a = b then am_Rn L xs d 66 26 ls st σ Q else am_Rn L xs d 66 23 ls st σ Q := (am_r_icmp (t := 26) d66_20 (by decide)).trans (am_ite _ _ trivial (by simp only [am_cond, decide_eq_true_eq]))
theorem r66_23  : am_Rn L xs d 66 23 ls st σ Q = am_li ls 1 (fun x => am_Rn L xs d 66 26 (ls.set 1 (.int (x + 1))) st σ Q) := am_r_iinc d66_23 (by decide)
theorem r66_26  : am_Rn L xs d 66 26 ls st σ Q = am_li ls 2 (fun x => am_Rn L xs d 66 29 (ls.set 2 (.int (x + 1))) st σ Q) := am_r_iinc d66_26 (by decide)
theorem r66_29  : am_Rn L xs d 66 29 ls st σ Q = am_Rn L xs d 66 4 ls st σ Q := am_r_goto d66_29 (by decide)
theorem r66_32  : am_Rn L xs d 66 32 ls st σ Q = am_li ls 1 (fun x => am_Rn L xs d 66 33 ls (.int x :: st) σ Q) := am_r_iload_n d66_32
theorem r66_33 {v : Int32} : am_Rn L xs d 66 33 ls [.int v] σ Q = Q (some (.int v)) σ := am_r_ireturn d66_33 rfl
theorem d79_0 : decode (pg_code 79) 0 = .ok (.iload_n 1, 1) := by decide +kernel
theorem d79_1 : decode (pg_code 79) 1 = .ok (.istore_n 3, 1) := by decide +kernel
theorem d79_2 : decode (pg_code 79) 2 = .ok (.iconst 0, 1) := by decide +kernel
theorem d79_3 : decode (pg_code 79) 3 = .ok (.istore 4, 2) := by decide +kernel
theorem d79_5 : decode (pg_code 79) 5 = .ok (.iload 4, 2) := by decide +kernel
theorem d79_7 : decode (pg_code 79) 7 = .ok (.aload_n 0, 1) := by decide +kernel
theorem d79_8 : decode (pg_code 79) 8 = .ok (.getfield 30, 3) := by decide +kernel
theorem d79_11 : decode (pg_code 79) 11 = .ok (.if_icmp .ge 31, 3) := by decide +kernel
theorem d79_14 : decode (pg_code 79) 14 = .ok (.aload_n 0, 1) := by decide +kernel
theorem d79_15 : decode (pg_code 79) 15 = .ok (.iload_n 3, 1) := by decide +kernel
theorem d79_16 : decode (pg_code 79) 16 = .ok (.invokevirtual 52, 3) := by decide +kernel
theorem d79_19 : decode (pg_code 79) 19 = .ok (.ifCond .eq 23, 3) := by decide +kernel
theorem d79_22 : decode (pg_code 79) 22 = .ok (.iload_n 3, 1) := by decide +kernel
theorem d79_23 : decode (pg_code 79) 23 = .ok (.iload_n 2, 1) := by decide +kernel
theorem d79_24 : decode (pg_code 79) 24 = .ok (.if_icmp .ne 5, 3) := by decide +kernel
theorem d79_27 : decode (pg_code 79) 27 = .ok (.iconst 1, 1) := by decide +kernel
theorem d79_28 : decode (pg_code 79) 28 = .ok (.ireturn, 1) := by decide +kernel
theorem d79_29 : decode (pg_code 79) 29 = .ok (.aload_n 0, 1) := by decide +kernel
theorem d79_30 : decode (pg_code 79) 30 = .ok (.getfield 9, 3) := by decide +kernel
theorem d79_33 : decode (pg_code 79) 33 = .ok (.iload_n 3, 1) := by decide +kernel
theorem d79_34 : decode (pg_code 79) 34 = .ok (.iaload, 1) := by decide +kernel
theorem d79_35 : decode (pg_code 79) 35 = .ok (.istore_n 3, 1) := by decide +kernel
theorem d79_36 : decode (pg_code 79) 36 = .ok (.iinc 4 1, 3) := by decide +kernel
theorem d79_39 : decode (pg_code 79) 39 = .ok (.goto (-34), 3) := by decide +kernel
theorem d79_42 : decode (pg_code 79) 42 = .ok (.iconst 0, 1) := by decide +kernel
theorem d79_43 : decode (pg_code 79) 43 = .ok (.ireturn, 1) := by decide +kernel
theorem e79 {b1 b2 b3 : Value} : am_Call L xs d 79 [b1, b2, b3] σ Q = am_Rn L xs d 79 0 [b1, b2, b3, .retAddr 0, .retAddr 0] [] σ Q := rfl
theorem r79_0  : am_Rn L xs d 79 0 ls st σ Q = am_li ls 1 (fun x => am_Rn L xs d 79 1 ls (.int x :: st) σ Q) := am_r_iload_n d79_0
theorem r79_1 {x : Int32} : am_Rn L xs d 79 1 ls (.int x :: st) σ Q = (3 < ls.length ∧ am_Rn L xs d 79 2 (ls.set 3 (.int x)) st σ Q) := am_r_istore_n d79_1
theorem r79_2  : am_Rn L xs d 79 2 ls st σ Q = am_Rn L xs d 79 3 ls (.int 0 :: st) σ Q := am_r_iconst d79_2 (by decide)
theorem r79_3 {x : Int32} : am_Rn L xs d 79 3 ls (.int x :: st) σ Q = (4 < ls.length ∧ am_Rn L xs d 79 5 (ls.set 4 (.int x)) st σ Q) := am_r_istore d79_3
theorem r79_5  : am_Rn L xs d 79 5 ls st σ Q = am_li ls 4 (fun x => am_Rn L xs d 79 7 ls (.int x :: st) σ Q) := am_r_iload d79_5
theorem r79_7  : am_Rn L xs d 79 7 ls st σ Q = am_la ls 0 (fun x => am_Rn L xs d 79 8 ls (x :: st) σ Q) := am_r_aload_n d79_7
theorem r79_8 {p : Nat} : am_Rn L xs d 79 8 ls (.ref p :: st) σ Q = am_fd σ p 1 4 (fun v => am_Rn L xs d 79 11 ls (v :: st) σ Q) := am_r_getfield d79_8 rfl
theorem r79_11 {a b : Int32} : am_Rn L xs d 79 11 ls (.int b :: .int a :: st) σ Q = if b ≤ a then am_Rn L xs d 79 42 ls st σ Q else am_Rn L xs d 79 14 ls st σ Q := (am_r_icmp (t := 42) d79_11 (by decide)).trans (am_ite _ _ trivial (by simp only [am_cond, decide_eq_true_eq]))
theorem r79_14  : am_Rn L xs d 79 14 ls st σ Q = am_la ls 0 (fun x => am_Rn L xs d 79 15 ls (x :: st) σ Q) := am_r_aload_n d79_14
theorem r79_15  : am_Rn L xs d 79 15 ls st σ Q = am_li ls 3 (fun x => am_Rn L xs d 79 16 ls (.int x :: st) σ Q) := am_r_iload_n d79_15
theorem r79_16 {a1 : Value} {p : Nat} : am_Rn L xs (d + 1) 79 16 ls (a1 :: .ref p :: st) σ Q = ((am_oc σ p = 1 ∧ st.length ≤ 4 ∧ am_ok a1 = true) ∧ am_Call L xs d 9 [.ref p, a1] σ (fun r σ1 => am_Rn L xs (d + 1) 79 19 ls (r.toList ++ st) σ1 Q)) := am_R_virtual1 d79_16 rfl ⟨by decide, rfl⟩ rfl rfl (by decide)
theorem r79_19 {a : Int32} : am_Rn L xs d 79 19 ls (.int a :: st) σ Q = if a = 0 then am_Rn L xs d 79 42 ls st σ Q else am_Rn L xs d 79 22 ls st σ Q := (am_r_if (t := 42) d79_19 (by decide)).trans (am_ite _ _ trivial (by simp only [am_cond, decide_eq_true_eq]))
theorem r79_22  : am_Rn L xs d 79 22 ls st σ Q = am_li ls 3 (fun x => am_Rn L xs d 79 23 ls (.int x :: st) σ Q) := am_r_iload_n d79_22
theorem r79_23  : am_Rn L xs d 79 23 ls st σ Q = am_li ls 2 (fun x => am_Rn L xs d 79 24 ls (.int x :: st) σ Q) := am_r_iload_n d79_23
theorem r79_24 {a b : Int32} : am_Rn L xs d 79 24 ls (.int b :: .int a :: st) σ Q = if ¬ a = b then am_Rn L xs d 79 29 ls st σ Q else am_Rn L xs d 79 27 ls st σ Q := (am_r_icmp (t := 29) d79_24 (by decide)).trans (am_ite _ _ trivial (by simp only [am_cond, decide_eq_true_eq]))
theorem r79_27  : am_Rn L xs d 79 27 ls st σ Q = am_Rn L xs d 79 28 ls (.int 1 :: st) σ Q := am_r_iconst d79_27 (by decide)
theorem r79_28 {v : Int32} (hv : v = 0 ∨ v = 1) : am_Rn L xs d 79 28 ls [.int v] σ Q = Q (some (.int v)) σ := am_r_zreturn d79_28 rfl hv
theorem r79_29  : am_Rn L xs d 79 29 ls st σ Q = am_la ls 0 (fun x => am_Rn L xs d 79 30 ls (x :: st) σ Q) := am_r_aload_n d79_29
theorem r79_30 {p : Nat} : am_Rn L xs d 79 30 ls (.ref p :: st) σ Q = am_fd σ p 1 0 (fun v => am_Rn L xs d 79 33 ls (v :: st) σ Q) := am_r_getfield d79_30 rfl
theorem r79_33  : am_Rn L xs d 79 33 ls st σ Q = am_li ls 3 (fun x => am_Rn L xs d 79 34 ls (.int x :: st) σ Q) := am_r_iload_n d79_33
theorem r79_34 {p : Nat} {i : Int32} : am_Rn L xs d 79 34 ls (.int i :: .ref p :: st) σ Q = am_ai 0 σ p i (fun x => am_Rn L xs d 79 35 ls (.int x :: st) σ Q) := am_r_iaload d79_34
theorem r79_35 {x : Int32} : am_Rn L xs d 79 35 ls (.int x :: st) σ Q = (3 < ls.length ∧ am_Rn L xs d 79 36 (ls.set 3 (.int x)) st σ Q) := am_r_istore_n d79_35
theorem r79_36  : am_Rn L xs d 79 36 ls st σ Q = am_li ls 4 (fun x => am_Rn L xs d 79 39 (ls.set 4 (.int (x + 1))) st σ Q) := am_r_iinc d79_36 (by decide)
theorem r79_39  : am_Rn L xs d 79 39 ls st σ Q = am_Rn L xs d 79 5 ls st σ Q := am_r_goto d79_39 (by decide)
theorem r79_42  : am_Rn L xs d 79 42 ls st σ Q = am_Rn L xs d 79 43 ls (.int 0 :: st) σ Q := am_r_iconst d79_42 (by decide)
theorem r79_43 {v : Int32} (hv : v = 0 ∨ v = 1) : am_Rn L xs d 79 43 ls [.int v] σ Q = Q (some (.int v)) σ := am_r_zreturn d79_43 rfl hv
end
