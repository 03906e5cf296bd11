/-! Rows of the program's instructions, written by program (wip/gen/gen_rows.py) -/
section
variable {L : Nat} {xs : Nat → Int32} {d : Nat} {ls st : List Value} {σ : am_S} {Q : Option Value → am_S → Prop}
theorem d9_0 : decode (pg_code 9) 0 = .ok (.iload_n 1, 1) := by decide +kernel
theorem d9_1 : decode (pg_code 9) 1 = .ok (.ifCond .lt 26, 3) := by decide +kernel
theorem d9_4 : decode (pg_code 9) 4 = .ok (.iload_n 1, 1) := by decide +kernel
theorem d9_5 : decode (pg_code 9) 5 = .ok (.aload_n 0, 1) := by decide +kernel
theorem d9_6 : decode (pg_code 9) 6 = .ok (.getfield 30, 3) := by decide +kernel
theorem d9_9 : decode (pg_code 9) 9 = .ok (.if_icmp .ge 18, 3) := by decide +kernel
theorem d9_12 : decode (pg_code 9) 12 = .ok (.aload_n 0, 1) := by decide +kernel
theorem d9_13 : decode (pg_code 9) 13 = .ok (.getfield 9, 3) := by decide +kernel
theorem d9_16 : decode (pg_code 9) 16 = .ok (.iload_n 1, 1) := by decide +kernel
theorem d9_17 : decode (pg_code 9) 17 = .ok (.iaload, 1) := by decide +kernel
theorem d9_18 : decode (pg_code 9) 18 = .ok (.bipush (-2), 2) := by decide +kernel
theorem d9_20 : decode (pg_code 9) 20 = .ok (.if_icmp .eq 7, 3) := by decide +kernel
theorem d9_23 : decode (pg_code 9) 23 = .ok (.iconst 1, 1) := by decide +kernel
theorem d9_24 : decode (pg_code 9) 24 = .ok (.goto 4, 3) := by decide +kernel
theorem d9_27 : decode (pg_code 9) 27 = .ok (.iconst 0, 1) := by decide +kernel
theorem d9_28 : decode (pg_code 9) 28 = .ok (.ireturn, 1) := by decide +kernel
theorem e9 {b1 b2 : Value} : am_Call L xs d 9 [b1, b2] σ Q = am_Rn L xs d 9 0 [b1, b2] [] σ Q := rfl
theorem r9_0  : am_Rn L xs d 9 0 ls st σ Q = am_li ls 1 (fun x => am_Rn L xs d 9 1 ls (.int x :: st) σ Q) := am_r_iload_n d9_0
theorem r9_1 {a : Int32} : am_Rn L xs d 9 1 ls (.int a :: st) σ Q = if a < 0 then am_Rn L xs d 9 27 ls st σ Q else am_Rn L xs d 9 4 ls st σ Q := (am_r_if (t := 27) d9_1 (by decide)).trans (am_ite _ _ trivial (by simp only [am_cond, decide_eq_true_eq]))
theorem r9_4  : am_Rn L xs d 9 4 ls st σ Q = am_li ls 1 (fun x => am_Rn L xs d 9 5 ls (.int x :: st) σ Q) := am_r_iload_n d9_4
theorem r9_5  : am_Rn L xs d 9 5 ls st σ Q = am_la ls 0 (fun x => am_Rn L xs d 9 6 ls (x :: st) σ Q) := am_r_aload_n d9_5
theorem r9_6 {p : Nat} : am_Rn L xs d 9 6 ls (.ref p :: st) σ Q = am_fd σ p 1 4 (fun v => am_Rn L xs d 9 9 ls (v :: st) σ Q) := am_r_getfield d9_6 rfl
theorem r9_9 {a b : Int32} : am_Rn L xs d 9 9 ls (.int b :: .int a :: st) σ Q = if b ≤ a then am_Rn L xs d 9 27 ls st σ Q else am_Rn L xs d 9 12 ls st σ Q := (am_r_icmp (t := 27) d9_9 (by decide)).trans (am_ite _ _ trivial (by simp only [am_cond, decide_eq_true_eq]))
theorem r9_12  : am_Rn L xs d 9 12 ls st σ Q = am_la ls 0 (fun x => am_Rn L xs d 9 13 ls (x :: st) σ Q) := am_r_aload_n d9_12
theorem r9_13 {p : Nat} : am_Rn L xs d 9 13 ls (.ref p :: st) σ Q = am_fd σ p 1 0 (fun v => am_Rn L xs d 9 16 ls (v :: st) σ Q) := am_r_getfield d9_13 rfl
theorem r9_16  : am_Rn L xs d 9 16 ls st σ Q = am_li ls 1 (fun x => am_Rn L xs d 9 17 ls (.int x :: st) σ Q) := am_r_iload_n d9_16
theorem r9_17 {p : Nat} {i : Int32} : am_Rn L xs d 9 17 ls (.int i :: .ref p :: st) σ Q = am_ai 0 σ p i (fun x => am_Rn L xs d 9 18 ls (.int x :: st) σ Q) := am_r_iaload d9_17
theorem r9_18  : am_Rn L xs d 9 18 ls st σ Q = am_Rn L xs d 9 20 ls (.int (-2) :: st) σ Q := am_r_bipush d9_18 (by decide)
theorem r9_20 {a b : Int32} : am_Rn L xs d 9 20 ls (.int b :: .int a :: st) σ Q = if a = b then am_Rn L xs d 9 27 ls st σ Q else am_Rn L xs d 9 23 ls st σ Q := (am_r_icmp (t := 27) d9_20 (by decide)).trans (am_ite _ _ trivial (by simp only [am_cond, decide_eq_true_eq]))
theorem r9_23  : am_Rn L xs d 9 23 ls st σ Q = am_Rn L xs d 9 24 ls (.int 1 :: st) σ Q := am_r_iconst d9_23 (by decide)
theorem r9_24  : am_Rn L xs d 9 24 ls st σ Q = am_Rn L xs d 9 28 ls st σ Q := am_r_goto d9_24 (by decide)
theorem r9_27  : am_Rn L xs d 9 27 ls st σ Q = am_Rn L xs d 9 28 ls (.int 0 :: st) σ Q := am_r_iconst d9_27 (by decide)
theorem r9_28 {v : Int32} (hv : v = 0 ∨ v = 1) : am_Rn L xs d 9 28 ls [.int v] σ Q = Q (some (.int v)) σ := am_r_zreturn d9_28 rfl hv
theorem d10_0 : decode (pg_code 10) 0 = .ok (.iconst 0, 1) := by decide +kernel
theorem d10_1 : decode (pg_code 10) 1 = .ok (.istore_n 2, 1) := by decide +kernel
theorem d10_2 : decode (pg_code 10) 2 = .ok (.iconst 0, 1) := by decide +kernel
theorem d10_3 : decode (pg_code 10) 3 = .ok (.istore_n 3, 1) := by decide +kernel
theorem d10_4 : decode (pg_code 10) 4 = .ok (.iload_n 3, 1) := by decide +kernel
theorem d10_5 : decode (pg_code 10) 5 = .ok (.aload_n 0, 1) := by decide +kernel
theorem d10_6 : decode (pg_code 10) 6 = .ok (.getfield 30, 3) := by decide +kernel
theorem d10_9 : decode (pg_code 10) 9 = .ok (.if_icmp .ge 22, 3) := by decide +kernel
theorem d10_31 : decode (pg_code 10) 31 = .ok (.iload_n 2, 1) := by decide +kernel
theorem d10_32 : decode (pg_code 10) 32 = .ok (.ireturn, 1) := by decide +kernel
theorem e10 {b1 b2 : Value} : am_Call L xs d 10 [b1, b2] σ Q = am_Rn L xs d 10 0 [b1, b2, .retAddr 0, .retAddr 0] [] σ Q := rfl
theorem r10_0  : am_Rn L xs d 10 0 ls st σ Q = am_Rn L xs d 10 1 ls (.int 0 :: st) σ Q := am_r_iconst d10_0 (by decide)
theorem r10_1 {x : Int32} : am_Rn L xs d 10 1 ls (.int x :: st) σ Q = (2 < ls.length ∧ am_Rn L xs d 10 2 (ls.set 2 (.int x)) st σ Q) := am_r_istore_n d10_1
theorem r10_2  : am_Rn L xs d 10 2 ls st σ Q = am_Rn L xs d 10 3 ls (.int 0 :: st) σ Q := am_r_iconst d10_2 (by decide)
theorem r10_3 {x : Int32} : am_Rn L xs d 10 3 ls (.int x :: st) σ Q = (3 < ls.length ∧ am_Rn L xs d 10 4 (ls.set 3 (.int x)) st σ Q) := am_r_istore_n d10_3
theorem r10_4  : am_Rn L xs d 10 4 ls st σ Q = am_li ls 3 (fun x => am_Rn L xs d 10 5 ls (.int x :: st) σ Q) := am_r_iload_n d10_4
theorem r10_5  : am_Rn L xs d 10 5 ls st σ Q = am_la ls 0 (fun x => am_Rn L xs d 10 6 ls (x :: st) σ Q) := am_r_aload_n d10_5
theorem r10_6 {p : Nat} : am_Rn L xs d 10 6 ls (.ref p :: st) σ Q = am_fd σ p 1 4 (fun v => am_Rn L xs d 10 9 ls (v :: st) σ Q) := am_r_getfield d10_6 rfl
theorem r10_9 {a b : Int32} : am_Rn L xs d 10 9 ls (.int b :: .int a :: st) σ Q = if b ≤ a then am_Rn L xs d 10 31 ls st σ Q else am_Rn L xs d 10 12 ls st σ Q := (am_r_icmp (t := 31) d10_9 (by decide)).trans (am_ite _ _ trivial (by simp only [am_cond, decide_eq_true_eq]))
theorem r10_31  : am_Rn L xs d 10 31 ls st σ Q = am_li ls 2 (fun x => am_Rn L xs d 10 32 ls (.int x :: st) σ Q) := am_r_iload_n d10_31
theorem r10_32 {v : Int32} : am_Rn L xs d 10 32 ls [.int v] σ Q = Q (some (.int v)) σ := am_r_ireturn d10_32 rfl
theorem d11_0 : decode (pg_code 11) 0 = .ok (.iconst 0, 1) := by decide +kernel
theorem d11_1 : decode (pg_code 11) 1 = .ok (.istore_n 3, 1) := by decide +kernel
theorem d11_2 : decode (pg_code 11) 2 = .ok (.iload_n 3, 1) := by decide +kernel
theorem d11_3 : decode (pg_code 11) 3 = .ok (.aload_n 0, 1) := by decide +kernel
theorem d11_4 : decode (pg_code 11) 4 = .ok (.getfield 30, 3) := by decide +kernel
theorem d11_7 : decode (pg_code 11) 7 = .ok (.if_icmp .ge 31, 3) := by decide +kernel
theorem d11_38 : decode (pg_code 11) 38 = .ok (.iconst (-1), 1) := by decide +kernel
theorem d11_39 : decode (pg_code 11) 39 = .ok (.ireturn, 1) := by decide +kernel
theorem e11 {b1 b2 b3 : Value} : am_Call L xs d 11 [b1, b2, b3] σ Q = am_Rn L xs d 11 0 [b1, b2, b3, .retAddr 0] [] σ Q := rfl
theorem r11_0  : am_Rn L xs d 11 0 ls st σ Q = am_Rn L xs d 11 1 ls (.int 0 :: st) σ Q := am_r_iconst d11_0 (by decide)
theorem r11_1 {x : Int32} : am_Rn L xs d 11 1 ls (.int x :: st) σ Q = (3 < ls.length ∧ am_Rn L xs d 11 2 (ls.set 3 (.int x)) st σ Q) := am_r_istore_n d11_1
theorem r11_2  : am_Rn L xs d 11 2 ls st σ Q = am_li ls 3 (fun x => am_Rn L xs d 11 3 ls (.int x :: st) σ Q) := am_r_iload_n d11_2
theorem r11_3  : am_Rn L xs d 11 3 ls st σ Q = am_la ls 0 (fun x => am_Rn L xs d 11 4 ls (x :: st) σ Q) := am_r_aload_n d11_3
theorem r11_4 {p : Nat} : am_Rn L xs d 11 4 ls (.ref p :: st) σ Q = am_fd σ p 1 4 (fun v => am_Rn L xs d 11 7 ls (v :: st) σ Q) := am_r_getfield d11_4 rfl
theorem r11_7 {a b : Int32} : am_Rn L xs d 11 7 ls (.int b :: .int a :: st) σ Q = if b ≤ a then am_Rn L xs d 11 38 ls st σ Q else am_Rn L xs d 11 10 ls st σ Q := (am_r_icmp (t := 38) d11_7 (by decide)).trans (am_ite _ _ trivial (by simp only [am_cond, decide_eq_true_eq]))
theorem r11_38  : am_Rn L xs d 11 38 ls st σ Q = am_Rn L xs d 11 39 ls (.int (-1) :: st) σ Q := am_r_iconst d11_38 (by decide)
theorem r11_39 {v : Int32} : am_Rn L xs d 11 39 ls [.int v] σ Q = Q (some (.int v)) σ := am_r_ireturn d11_39 rfl
theorem d12_0 : decode (pg_code 12) 0 = .ok (.iload_n 1, 1) := by decide +kernel
theorem d12_1 : decode (pg_code 12) 1 = .ok (.ifCond .lt 12, 3) := by decide +kernel
theorem d12_4 : decode (pg_code 12) 4 = .ok (.iload_n 1, 1) := by decide +kernel
theorem d12_5 : decode (pg_code 12) 5 = .ok (.aload_n 0, 1) := by decide +kernel
theorem d12_6 : decode (pg_code 12) 6 = .ok (.getfield 9, 3) := by decide +kernel
theorem d12_9 : decode (pg_code 12) 9 = .ok (.arraylength, 1) := by decide +kernel
theorem d12_10 : decode (pg_code 12) 10 = .ok (.if_icmp .lt 4, 3) := by decide +kernel
theorem d12_13 : decode (pg_code 12) 13 = .ok (.return_, 1) := by decide +kernel
theorem d12_14 : decode (pg_code 12) 14 = .ok (.aload_n 0, 1) := by decide +kernel
theorem d12_15 : decode (pg_code 12) 15 = .ok (.getfield 18, 3) := by decide +kernel
theorem d12_18 : decode (pg_code 12) 18 = .ok (.iload_n 1, 1) := by decide +kernel
theorem d12_19 : decode (pg_code 12) 19 = .ok (.iload_n 2, 1) := by decide +kernel
theorem d12_20 : decode (pg_code 12) 20 = .ok (.iastore, 1) := by decide +kernel
theorem d12_21 : decode (pg_code 12) 21 = .ok (.aload_n 0, 1) := by decide +kernel
theorem d12_22 : decode (pg_code 12) 22 = .ok (.getfield 21, 3) := by decide +kernel
theorem d12_25 : decode (pg_code 12) 25 = .ok (.iload_n 1, 1) := by decide +kernel
theorem d12_26 : decode (pg_code 12) 26 = .ok (.iload_n 3, 1) := by decide +kernel
theorem d12_27 : decode (pg_code 12) 27 = .ok (.iastore, 1) := by decide +kernel
theorem d12_28 : decode (pg_code 12) 28 = .ok (.aload_n 0, 1) := by decide +kernel
theorem d12_29 : decode (pg_code 12) 29 = .ok (.aload_n 0, 1) := by decide +kernel
theorem d12_30 : decode (pg_code 12) 30 = .ok (.getfield 30, 3) := by decide +kernel
theorem d12_33 : decode (pg_code 12) 33 = .ok (.iload_n 1, 1) := by decide +kernel
theorem d12_34 : decode (pg_code 12) 34 = .ok (.iconst 1, 1) := by decide +kernel
theorem d12_35 : decode (pg_code 12) 35 = .ok (.iadd, 1) := by decide +kernel
theorem d12_36 : decode (pg_code 12) 36 = .ok (.invokestatic 49, 3) := by decide +kernel
theorem d12_39 : decode (pg_code 12) 39 = .ok (.putfield 30, 3) := by decide +kernel
theorem d12_42 : decode (pg_code 12) 42 = .ok (.return_, 1) := by decide +kernel
theorem e12 {b1 b2 b3 b4 : Value} : am_Call L xs d 12 [b1, b2, b3, b4] σ Q = am_Rn L xs d 12 0 [b1, b2, b3, b4] [] σ Q := rfl
theorem r12_0  : am_Rn L xs d 12 0 ls st σ Q = am_li ls 1 (fun x => am_Rn L xs d 12 1 ls (.int x :: st) σ Q) := am_r_iload_n d12_0
theorem r12_1 {a : Int32} : am_Rn L xs d 12 1 ls (.int a :: st) σ Q = if a < 0 then am_Rn L xs d 12 13 ls st σ Q else am_Rn L xs d 12 4 ls st σ Q := (am_r_if (t := 13) d12_1 (by decide)).trans (am_ite _ _ trivial (by simp only [am_cond, decide_eq_true_eq]))
theorem r12_4  : am_Rn L xs d 12 4 ls st σ Q = am_li ls 1 (fun x => am_Rn L xs d 12 5 ls (.int x :: st) σ Q) := am_r_iload_n d12_4
theorem r12_5  : am_Rn L xs d 12 5 ls st σ Q = am_la ls 0 (fun x => am_Rn L xs d 12 6 ls (x :: st) σ Q) := am_r_aload_n d12_5
theorem r12_6 {p : Nat} : am_Rn L xs d 12 6 ls (.ref p :: st) σ Q = am_fd σ p 1 0 (fun v => am_Rn L xs d 12 9 ls (v :: st) σ Q) := am_r_getfield d12_6 rfl
theorem r12_9 {p : Nat} : am_Rn L xs d 12 9 ls (.ref p :: st) σ Q = am_ln σ p (fun x => am_Rn L xs d 12 10 ls (.int x :: st) σ Q) := am_r_arraylength d12_9
theorem r12_10 {a b : Int32} : am_Rn L xs d 12 10 ls (.int b :: .int a :: st) σ Q = if a < b then am_Rn L xs d 12 14 ls st σ Q else am_Rn L xs d 12 13 ls st σ Q := (am_r_icmp (t := 14) d12_10 (by decide)).trans (am_ite _ _ trivial (by simp only [am_cond, decide_eq_true_eq]))
theorem r12_13  : am_Rn L xs d 12 13 ls [] σ Q = Q none σ := am_r_return d12_13 rfl
theorem r12_14  : am_Rn L xs d 12 14 ls st σ Q = am_la ls 0 (fun x => am_Rn L xs d 12 15 ls (x :: st) σ Q) := am_r_aload_n d12_14
theorem r12_15 {p : Nat} : am_Rn L xs d 12 15 ls (.ref p :: st) σ Q = am_fd σ p 1 2 (fun v => am_Rn L xs d 12 18 ls (v :: st) σ Q) := am_r_getfield d12_15 rfl
theorem r12_18  : am_Rn L xs d 12 18 ls st σ Q = am_li ls 1 (fun x => am_Rn L xs d 12 19 ls (.int x :: st) σ Q) := am_r_iload_n d12_18
theorem r12_19  : am_Rn L xs d 12 19 ls st σ Q = am_li ls 2 (fun x => am_Rn L xs d 12 20 ls (.int x :: st) σ Q) := am_r_iload_n d12_19
theorem r12_20 {p : Nat} {i x : Int32} : am_Rn L xs d 12 20 ls (.int x :: .int i :: .ref p :: st) σ Q = am_wi 0 σ p i x (fun σ1 => am_Rn L xs d 12 21 ls st σ1 Q) := am_r_iastore d12_20
theorem r12_21  : am_Rn L xs d 12 21 ls st σ Q = am_la ls 0 (fun x => am_Rn L xs d 12 22 ls (x :: st) σ Q) := am_r_aload_n d12_21
theorem r12_22 {p : Nat} : am_Rn L xs d 12 22 ls (.ref p :: st) σ Q = am_fd σ p 1 3 (fun v => am_Rn L xs d 12 25 ls (v :: st) σ Q) := am_r_getfield d12_22 rfl
theorem r12_25  : am_Rn L xs d 12 25 ls st σ Q = am_li ls 1 (fun x => am_Rn L xs d 12 26 ls (.int x :: st) σ Q) := am_r_iload_n d12_25
theorem r12_26  : am_Rn L xs d 12 26 ls st σ Q = am_li ls 3 (fun x => am_Rn L xs d 12 27 ls (.int x :: st) σ Q) := am_r_iload_n d12_26
theorem r12_27 {p : Nat} {i x : Int32} : am_Rn L xs d 12 27 ls (.int x :: .int i :: .ref p :: st) σ Q = am_wi 0 σ p i x (fun σ1 => am_Rn L xs d 12 28 ls st σ1 Q) := am_r_iastore d12_27
theorem r12_28  : am_Rn L xs d 12 28 ls st σ Q = am_la ls 0 (fun x => am_Rn L xs d 12 29 ls (x :: st) σ Q) := am_r_aload_n d12_28
theorem r12_29  : am_Rn L xs d 12 29 ls st σ Q = am_la ls 0 (fun x => am_Rn L xs d 12 30 ls (x :: st) σ Q) := am_r_aload_n d12_29
theorem r12_30 {p : Nat} : am_Rn L xs d 12 30 ls (.ref p :: st) σ Q = am_fd σ p 1 4 (fun v => am_Rn L xs d 12 33 ls (v :: st) σ Q) := am_r_getfield d12_30 rfl
theorem r12_33  : am_Rn L xs d 12 33 ls st σ Q = am_li ls 1 (fun x => am_Rn L xs d 12 34 ls (.int x :: st) σ Q) := am_r_iload_n d12_33
theorem r12_34  : am_Rn L xs d 12 34 ls st σ Q = am_Rn L xs d 12 35 ls (.int 1 :: st) σ Q := am_r_iconst d12_34 (by decide)
theorem r12_35 {a b : Int32} : am_Rn L xs d 12 35 ls (.int b :: .int a :: st) σ Q = am_Rn L xs d 12 36 ls (.int (a + b) :: st) σ Q := am_r_iadd d12_35
theorem r12_36 {a b : Int32} (hr : st.length ≤ 8) : am_Rn L xs (d + 1) 12 36 ls (.int b :: .int a :: st) σ Q = am_Rn L xs (d + 1) 12 39 ls (.int (if a < b then b else a) :: st) σ Q := am_r_sp d12_36 (Or.inr ⟨rfl, by decide⟩) rfl (by decide) (if_pos hr)
theorem r12_39 {p : Nat} {v : Value} : am_Rn L xs d 12 39 ls (v :: .ref p :: st) σ Q = am_wf 12 1 σ p 1 4 v (fun σ1 => am_Rn L xs d 12 42 ls st σ1 Q) := am_r_putfield d12_39 rfl
theorem r12_42  : am_Rn L xs d 12 42 ls [] σ Q = Q none σ := am_r_return d12_42 rfl
theorem d13_0 : decode (pg_code 13) 0 = .ok (.iload_n 1, 1) := by decide +kernel
theorem d13_1 : decode (pg_code 13) 1 = .ok (.ifCond .lt 11, 3) := by decide +kernel
theorem d13_4 : decode (pg_code 13) 4 = .ok (.iload_n 1, 1) := by decide +kernel
theorem d13_5 : decode (pg_code 13) 5 = .ok (.aload_n 0, 1) := by decide +kernel
theorem d13_6 : decode (pg_code 13) 6 = .ok (.getfield 30, 3) := by decide +kernel
theorem d13_9 : decode (pg_code 13) 9 = .ok (.if_icmp .lt 4, 3) := by decide +kernel
theorem d13_12 : decode (pg_code 13) 12 = .ok (.return_, 1) := by decide +kernel
theorem d13_13 : decode (pg_code 13) 13 = .ok (.aload_n 0, 1) := by decide +kernel
theorem d13_14 : decode (pg_code 13) 14 = .ok (.iload_n 3, 1) := by decide +kernel
theorem d13_15 : decode (pg_code 13) 15 = .ok (.invokevirtual 52, 3) := by decide +kernel
theorem d13_18 : decode (pg_code 13) 18 = .ok (.ifCond .eq 14, 3) := by decide +kernel
theorem d13_21 : decode (pg_code 13) 21 = .ok (.aload_n 0, 1) := by decide +kernel
theorem d13_22 : decode (pg_code 13) 22 = .ok (.getfield 15, 3) := by decide +kernel
theorem d13_25 : decode (pg_code 13) 25 = .ok (.iload_n 3, 1) := by decide +kernel
theorem d13_26 : decode (pg_code 13) 26 = .ok (.iaload, 1) := by decide +kernel
theorem d13_27 : decode (pg_code 13) 27 = .ok (.iconst 1, 1) := by decide +kernel
theorem d13_28 : decode (pg_code 13) 28 = .ok (.iadd, 1) := by decide +kernel
theorem d13_29 : decode (pg_code 13) 29 = .ok (.goto 4, 3) := by decide +kernel
theorem d13_32 : decode (pg_code 13) 32 = .ok (.iconst 0, 1) := by decide +kernel
theorem d13_33 : decode (pg_code 13) 33 = .ok (.istore 4, 2) := by decide +kernel
theorem d13_35 : decode (pg_code 13) 35 = .ok (.iconst 0, 1) := by decide +kernel
theorem d13_36 : decode (pg_code 13) 36 = .ok (.istore 5, 2) := by decide +kernel
theorem d13_38 : decode (pg_code 13) 38 = .ok (.iload 5, 2) := by decide +kernel
theorem d13_40 : decode (pg_code 13) 40 = .ok (.aload_n 0, 1) := by decide +kernel
theorem d13_41 : decode (pg_code 13) 41 = .ok (.getfield 30, 3) := by decide +kernel
theorem d13_44 : decode (pg_code 13) 44 = .ok (.if_icmp .ge 43, 3) := by decide +kernel
theorem d13_47 : decode (pg_code 13) 47 = .ok (.aload_n 0, 1) := by decide +kernel
theorem d13_48 : decode (pg_code 13) 48 = .ok (.getfield 9, 3) := by decide +kernel
theorem d13_51 : decode (pg_code 13) 51 = .ok (.iload 5, 2) := by decide +kernel
theorem d13_53 : decode (pg_code 13) 53 = .ok (.iaload, 1) := by decide +kernel
theorem d13_54 : decode (pg_code 13) 54 = .ok (.iload_n 2, 1) := by decide +kernel
theorem d13_55 : decode (pg_code 13) 55 = .ok (.if_icmp .ne 26, 3) := by decide +kernel
theorem d13_81 : decode (pg_code 13) 81 = .ok (.iinc 5 1, 3) := by decide +kernel
theorem d13_84 : decode (pg_code 13) 84 = .ok (.goto (-46), 3) := by decide +kernel
theorem d13_87 : decode (pg_code 13) 87 = .ok (.aload_n 0, 1) := by decide +kernel
theorem d13_88 : decode (pg_code 13) 88 = .ok (.getfield 9, 3) := by decide +kernel
theorem d13_91 : decode (pg_code 13) 91 = .ok (.iload_n 1, 1) := by decide +kernel
theorem d13_92 : decode (pg_code 13) 92 = .ok (.iload_n 2, 1) := by decide +kernel
theorem d13_93 : decode (pg_code 13) 93 = .ok (.iastore, 1) := by decide +kernel
theorem d13_94 : decode (pg_code 13) 94 = .ok (.aload_n 0, 1) := by decide +kernel
theorem d13_95 : decode (pg_code 13) 95 = .ok (.getfield 15, 3) := by decide +kernel
theorem d13_98 : decode (pg_code 13) 98 = .ok (.iload_n 1, 1) := by decide +kernel
theorem d13_99 : decode (pg_code 13) 99 = .ok (.iload 4, 2) := by decide +kernel
theorem d13_101 : decode (pg_code 13) 101 = .ok (.iastore, 1) := by decide +kernel
theorem d13_102 : decode (pg_code 13) 102 = .ok (.return_, 1) := by decide +kernel
theorem e13 {b1 b2 b3 b4 : Value} : am_Call L xs d 13 [b1, b2, b3, b4] σ Q = am_Rn L xs d 13 0 [b1, b2, b3, b4, .retAddr 0, .retAddr 0] [] σ Q := rfl
theorem r13_0  : am_Rn L xs d 13 0 ls st σ Q = am_li ls 1 (fun x => am_Rn L xs d 13 1 ls (.int x :: st) σ Q) := am_r_iload_n d13_0
theorem r13_1 {a : Int32} : am_Rn L xs d 13 1 ls (.int a :: st) σ Q = if a < 0 then am_Rn L xs d 13 12 ls st σ Q else am_Rn L xs d 13 4 ls st σ Q := (am_r_if (t := 12) d13_1 (by decide)).trans (am_ite _ _ trivial (by simp only [am_cond, decide_eq_true_eq]))
theorem r13_4  : am_Rn L xs d 13 4 ls st σ Q = am_li ls 1 (fun x => am_Rn L xs d 13 5 ls (.int x :: st) σ Q) := am_r_iload_n d13_4
theorem r13_5  : am_Rn L xs d 13 5 ls st σ Q = am_la ls 0 (fun x => am_Rn L xs d 13 6 ls (x :: st) σ Q) := am_r_aload_n d13_5
theorem r13_6 {p : Nat} : am_Rn L xs d 13 6 ls (.ref p :: st) σ Q = am_fd σ p 1 4 (fun v => am_Rn L xs d 13 9 ls (v :: st) σ Q) := am_r_getfield d13_6 rfl
theorem r13_9 {a b : Int32} : am_Rn L xs d 13 9 ls (.int b :: .int a :: st) σ Q = if a < b then am_Rn L xs d 13 13 ls st σ Q else am_Rn L xs d 13 12 ls st σ Q := (am_r_icmp (t := 13) d13_9 (by decide)).trans (am_ite _ _ trivial (by simp only [am_cond, decide_eq_true_eq]))
theorem r13_12  : am_Rn L xs d 13 12 ls [] σ Q = Q none σ := am_r_return d13_12 rfl
theorem r13_13  : am_Rn L xs d 13 13 ls st σ Q = am_la ls 0 (fun x => am_Rn L xs d 13 14 ls (x :: st) σ Q) := am_r_aload_n d13_13
theorem r13_14  : am_Rn L xs d 13 14 ls st σ Q = am_li ls 3 (fun x => am_Rn L xs d 13 15 ls (.int x :: st) σ Q) := am_r_iload_n d13_14
theorem r13_15 {a1 : Value} {p : Nat} : am_Rn L xs (d + 1) 13 15 ls (a1 :: .ref p :: st) σ Q = ((am_oc σ p = 1 ∧ st.length ≤ 4 ∧ am_ok a1 = true) ∧ am_Call L xs d 9 [.ref p, a1] σ (fun r σ1 => am_Rn L xs (d + 1) 13 18 ls (r.toList ++ st) σ1 Q)) := am_R_virtual1 d13_15 rfl ⟨by decide, rfl⟩ rfl rfl (by decide)
theorem r13_18 {a : Int32} : am_Rn L xs d 13 18 ls (.int a :: st) σ Q = if a = 0 then am_Rn L xs d 13 32 ls st σ Q else am_Rn L xs d 13 21 ls st σ Q := (am_r_if (t := 32) d13_18 (by decide)).trans (am_ite _ _ trivial (by simp only [am_cond, decide_eq_true_eq]))
theorem r13_21  : am_Rn L xs d 13 21 ls st σ Q = am_la ls 0 (fun x => am_Rn L xs d 13 22 ls (x :: st) σ Q) := am_r_aload_n d13_21
theorem r13_22 {p : Nat} : am_Rn L xs d 13 22 ls (.ref p :: st) σ Q = am_fd σ p 1 1 (fun v => am_Rn L xs d 13 25 ls (v :: st) σ Q) := am_r_getfield d13_22 rfl
theorem r13_25  : am_Rn L xs d 13 25 ls st σ Q = am_li ls 3 (fun x => am_Rn L xs d 13 26 ls (.int x :: st) σ Q) := am_r_iload_n d13_25
theorem r13_26 {p : Nat} {i : Int32} : am_Rn L xs d 13 26 ls (.int i :: .ref p :: st) σ Q = am_ai 0 σ p i (fun x => am_Rn L xs d 13 27 ls (.int x :: st) σ Q) := am_r_iaload d13_26
theorem r13_27  : am_Rn L xs d 13 27 ls st σ Q = am_Rn L xs d 13 28 ls (.int 1 :: st) σ Q := am_r_iconst d13_27 (by decide)
theorem r13_28 {a b : Int32} : am_Rn L xs d 13 28 ls (.int b :: .int a :: st) σ Q = am_Rn L xs d 13 29 ls (.int (a + b) :: st) σ Q := am_r_iadd d13_28
theorem r13_29  : am_Rn L xs d 13 29 ls st σ Q = am_Rn L xs d 13 33 ls st σ Q := am_r_goto d13_29 (by decide)
theorem r13_32  : am_Rn L xs d 13 32 ls st σ Q = am_Rn L xs d 13 33 ls (.int 0 :: st) σ Q := am_r_iconst d13_32 (by decide)
theorem r13_33 {x : Int32} : am_Rn L xs d 13 33 ls (.int x :: st) σ Q = (4 < ls.length ∧ am_Rn L xs d 13 35 (ls.set 4 (.int x)) st σ Q) := am_r_istore d13_33
theorem r13_35  : am_Rn L xs d 13 35 ls st σ Q = am_Rn L xs d 13 36 ls (.int 0 :: st) σ Q := am_r_iconst d13_35 (by decide)
theorem r13_36 {x : Int32} : am_Rn L xs d 13 36 ls (.int x :: st) σ Q = (5 < ls.length ∧ am_Rn L xs d 13 38 (ls.set 5 (.int x)) st σ Q) := am_r_istore d13_36
theorem r13_38  : am_Rn L xs d 13 38 ls st σ Q = am_li ls 5 (fun x => am_Rn L xs d 13 40 ls (.int x :: st) σ Q) := am_r_iload d13_38
theorem r13_40  : am_Rn L xs d 13 40 ls st σ Q = am_la ls 0 (fun x => am_Rn L xs d 13 41 ls (x :: st) σ Q) := am_r_aload_n d13_40
theorem r13_41 {p : Nat} : am_Rn L xs d 13 41 ls (.ref p :: st) σ Q = am_fd σ p 1 4 (fun v => am_Rn L xs d 13 44 ls (v :: st) σ Q) := am_r_getfield d13_41 rfl
theorem r13_44 {a b : Int32} : am_Rn L xs d 13 44 ls (.int b :: .int a :: st) σ Q = if b ≤ a then am_Rn L xs d 13 87 ls st σ Q else am_Rn L xs d 13 47 ls st σ Q := (am_r_icmp (t := 87) d13_44 (by decide)).trans (am_ite _ _ trivial (by simp only [am_cond, decide_eq_true_eq]))
theorem r13_47  : am_Rn L xs d 13 47 ls st σ Q = am_la ls 0 (fun x => am_Rn L xs d 13 48 ls (x :: st) σ Q) := am_r_aload_n d13_47
theorem r13_48 {p : Nat} : am_Rn L xs d 13 48 ls (.ref p :: st) σ Q = am_fd σ p 1 0 (fun v => am_Rn L xs d 13 51 ls (v :: st) σ Q) := am_r_getfield d13_48 rfl
theorem r13_51  : am_Rn L xs d 13 51 ls st σ Q = am_li ls 5 (fun x => am_Rn L xs d 13 53 ls (.int x :: st) σ Q) := am_r_iload d13_51
theorem r13_53 {p : Nat} {i : Int32} : am_Rn L xs d 13 53 ls (.int i :: .ref p :: st) σ Q = am_ai 0 σ p i (fun x => am_Rn L xs d 13 54 ls (.int x :: st) σ Q) := am_r_iaload d13_53
theorem r13_54  : am_Rn L xs d 13 54 ls st σ Q = am_li ls 2 (fun x => am_Rn L xs d 13 55 ls (.int x :: st) σ Q) := am_r_iload_n d13_54
theorem r13_55 {a b : Int32} : am_Rn L xs d 13 55 ls (.int b :: .int a :: st) σ Q = if ¬ a = b then am_Rn L xs d 13 81 ls st σ Q else am_Rn L xs d 13 58 ls st σ Q := (am_r_icmp (t := 81) d13_55 (by decide)).trans (am_ite _ _ trivial (by simp only [am_cond, decide_eq_true_eq]))
theorem r13_81  : am_Rn L xs d 13 81 ls st σ Q = am_li ls 5 (fun x => am_Rn L xs d 13 84 (ls.set 5 (.int (x + 1))) st σ Q) := am_r_iinc d13_81 (by decide)
theorem r13_84  : am_Rn L xs d 13 84 ls st σ Q = am_Rn L xs d 13 38 ls st σ Q := am_r_goto d13_84 (by decide)
theorem r13_87  : am_Rn L xs d 13 87 ls st σ Q = am_la ls 0 (fun x => am_Rn L xs d 13 88 ls (x :: st) σ Q) := am_r_aload_n d13_87
theorem r13_88 {p : Nat} : am_Rn L xs d 13 88 ls (.ref p :: st) σ Q = am_fd σ p 1 0 (fun v => am_Rn L xs d 13 91 ls (v :: st) σ Q) := am_r_getfield d13_88 rfl
theorem r13_91  : am_Rn L xs d 13 91 ls st σ Q = am_li ls 1 (fun x => am_Rn L xs d 13 92 ls (.int x :: st) σ Q) := am_r_iload_n d13_91
theorem r13_92  : am_Rn L xs d 13 92 ls st σ Q = am_li ls 2 (fun x => am_Rn L xs d 13 93 ls (.int x :: st) σ Q) := am_r_iload_n d13_92
theorem r13_93 {p : Nat} {i x : Int32} : am_Rn L xs d 13 93 ls (.int x :: .int i :: .ref p :: st) σ Q = am_wi 0 σ p i x (fun σ1 => am_Rn L xs d 13 94 ls st σ1 Q) := am_r_iastore d13_93
theorem r13_94  : am_Rn L xs d 13 94 ls st σ Q = am_la ls 0 (fun x => am_Rn L xs d 13 95 ls (x :: st) σ Q) := am_r_aload_n d13_94
theorem r13_95 {p : Nat} : am_Rn L xs d 13 95 ls (.ref p :: st) σ Q = am_fd σ p 1 1 (fun v => am_Rn L xs d 13 98 ls (v :: st) σ Q) := am_r_getfield d13_95 rfl
theorem r13_98  : am_Rn L xs d 13 98 ls st σ Q = am_li ls 1 (fun x => am_Rn L xs d 13 99 ls (.int x :: st) σ Q) := am_r_iload_n d13_98
theorem r13_99  : am_Rn L xs d 13 99 ls st σ Q = am_li ls 4 (fun x => am_Rn L xs d 13 101 ls (.int x :: st) σ Q) := am_r_iload d13_99
theorem r13_101 {p : Nat} {i x : Int32} : am_Rn L xs d 13 101 ls (.int x :: .int i :: .ref p :: st) σ Q = am_wi 0 σ p i x (fun σ1 => am_Rn L xs d 13 102 ls st σ1 Q) := am_r_iastore d13_101
theorem r13_102  : am_Rn L xs d 13 102 ls [] σ Q = Q none σ := am_r_return d13_102 rfl
theorem d15_0 : decode (pg_code 15) 0 = .ok (.aload_n 0, 1) := by decide +kernel
theorem d15_1 : decode (pg_code 15) 1 = .ok (.getfield 9, 3) := by decide +kernel
theorem d15_4 : decode (pg_code 15) 4 = .ok (.bipush (-2), 2) := by decide +kernel
theorem d15_6 : decode (pg_code 15) 6 = .ok (.invokestatic 24, 3) := by decide +kernel
theorem d15_9 : decode (pg_code 15) 9 = .ok (.aload_n 0, 1) := by decide +kernel
theorem d15_10 : decode (pg_code 15) 10 = .ok (.iconst 0, 1) := by decide +kernel
theorem d15_11 : decode (pg_code 15) 11 = .ok (.putfield 30, 3) := by decide +kernel
theorem d15_14 : decode (pg_code 15) 14 = .ok (.return_, 1) := by decide +kernel
theorem e15 {b1 : Value} : am_Call L xs d 15 [b1] σ Q = am_Rn L xs d 15 0 [b1] [] σ Q := rfl
theorem r15_0  : am_Rn L xs d 15 0 ls st σ Q = am_la ls 0 (fun x => am_Rn L xs d 15 1 ls (x :: st) σ Q) := am_r_aload_n d15_0
theorem r15_1 {p : Nat} : am_Rn L xs d 15 1 ls (.ref p :: st) σ Q = am_fd σ p 1 0 (fun v => am_Rn L xs d 15 4 ls (v :: st) σ Q) := am_r_getfield d15_1 rfl
theorem r15_4  : am_Rn L xs d 15 4 ls st σ Q = am_Rn L xs d 15 6 ls (.int (-2) :: st) σ Q := am_r_bipush d15_4 (by decide)
theorem r15_6 {a1 a2 : Value} : am_Rn L xs (d + 1) 15 6 ls (a2 :: a1 :: st) σ Q = ((st.length ≤ 4 ∧ am_ok a1 = true ∧ am_ok a2 = true) ∧ am_Call L xs d 2 [a1, a2] σ (fun r σ1 => am_Rn L xs (d + 1) 15 9 ls (r.toList ++ st) σ1 Q)) := am_R_static2 d15_6 rfl ⟨by decide, rfl⟩ rfl (by decide)
theorem r15_9  : am_Rn L xs d 15 9 ls st σ Q = am_la ls 0 (fun x => am_Rn L xs d 15 10 ls (x :: st) σ Q) := am_r_aload_n d15_9
theorem r15_10  : am_Rn L xs d 15 10 ls st σ Q = am_Rn L xs d 15 11 ls (.int 0 :: st) σ Q := am_r_iconst d15_10 (by decide)
theorem r15_11 {p : Nat} {v : Value} : am_Rn L xs d 15 11 ls (v :: .ref p :: st) σ Q = am_wf 15 1 σ p 1 4 v (fun σ1 => am_Rn L xs d 15 14 ls st σ1 Q) := am_r_putfield d15_11 rfl
theorem r15_14  : am_Rn L xs d 15 14 ls [] σ Q = Q none σ := am_r_return d15_14 rfl
theorem d20_0 : decode (pg_code 20) 0 = .ok (.iload 4, 2) := by decide +kernel
theorem d20_2 : decode (pg_code 20) 2 = .ok (.bipush 40, 2) := by decide +kernel
theorem d20_4 : decode (pg_code 20) 4 = .ok (.if_icmp .gt 19, 3) := by decide +kernel
theorem d20_7 : decode (pg_code 20) 7 = .ok (.aload_n 0, 1) := by decide +kernel
theorem d20_8 : decode (pg_code 20) 8 = .ok (.iload_n 1, 1) := by decide +kernel
theorem d20_9 : decode (pg_code 20) 9 = .ok (.invokevirtual 52, 3) := by decide +kernel
theorem d20_12 : decode (pg_code 20) 12 = .ok (.ifCond .eq 11, 3) := by decide +kernel
theorem d20_23 : decode (pg_code 20) 23 = .ok (.iconst 0, 1) := by decide +kernel
theorem d20_24 : decode (pg_code 20) 24 = .ok (.ireturn, 1) := by decide +kernel
theorem e20 {b1 b2 b3 b4 b5 : Value} : am_Call L xs d 20 [b1, b2, b3, b4, b5] σ Q = am_Rn L xs d 20 0 [b1, b2, b3, b4, b5, .retAddr 0, .retAddr 0] [] σ Q := rfl
theorem r20_0  : am_Rn L xs d 20 0 ls st σ Q = am_li ls 4 (fun x => am_Rn L xs d 20 2 ls (.int x :: st) σ Q) := am_r_iload d20_0
theorem r20_2  : am_Rn L xs d 20 2 ls st σ Q = am_Rn L xs d 20 4 ls (.int 40 :: st) σ Q := am_r_bipush d20_2 (by decide)
theorem r20_4 {a b : Int32} : am_Rn L xs d 20 4 ls (.int b :: .int a :: st) σ Q = if b < a then am_Rn L xs d 20 23 ls st σ Q else am_Rn L xs d 20 7 ls st σ Q := (am_r_icmp (t := 23) d20_4 (by decide)).trans (am_ite _ _ trivial (by simp only [am_cond, decide_eq_true_eq]))
theorem r20_7  : am_Rn L xs d 20 7 ls st σ Q = am_la ls 0 (fun x => am_Rn L xs d 20 8 ls (x :: st) σ Q) := am_r_aload_n d20_7
theorem r20_8  : am_Rn L xs d 20 8 ls st σ Q = am_li ls 1 (fun x => am_Rn L xs d 20 9 ls (.int x :: st) σ Q) := am_r_iload_n d20_8
theorem r20_9 {a1 : Value} {p : Nat} : am_Rn L xs (d + 1) 20 9 ls (a1 :: .ref p :: st) σ Q = ((am_oc σ p = 1 ∧ st.length ≤ 4 ∧ am_ok a1 = true) ∧ am_Call L xs d 9 [.ref p, a1] σ (fun r σ1 => am_Rn L xs (d + 1) 20 12 ls (r.toList ++ st) σ1 Q)) := am_R_virtual1 d20_9 rfl ⟨by decide, rfl⟩ rfl rfl (by decide)
theorem r20_12 {a : Int32} : am_Rn L xs d 20 12 ls (.int a :: st) σ Q = if a = 0 then am_Rn L xs d 20 23 ls st σ Q else am_Rn L xs d 20 15 ls st σ Q := (am_r_if (t := 23) d20_12 (by decide)).trans (am_ite _ _ trivial (by simp only [am_cond, decide_eq_true_eq]))
theorem r20_23  : am_Rn L xs d 20 23 ls st σ Q = am_Rn L xs d 20 24 ls (.int 0 :: st) σ Q := am_r_iconst d20_23 (by decide)
theorem r20_24 {v : Int32} (hv : v = 0 ∨ v = 1) : am_Rn L xs d 20 24 ls [.int v] σ Q = Q (some (.int v)) σ := am_r_zreturn d20_24 rfl hv
end
