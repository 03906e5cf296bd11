/-! Rows of the program's instructions, written by program (wip/gen/gen_rows.py) -/
section
variable {L : Nat} {xs : Nat → Int32} {d : Nat} {ls st : List Value} {σ : am_S} {Q : Option Value → am_S → Prop}
theorem d24_0 : decode (pg_code 24) 0 = .ok (.aload_n 0, 1) := by decide +kernel
theorem d24_1 : decode (pg_code 24) 1 = .ok (.aload_n 1, 1) := by decide +kernel
theorem d24_2 : decode (pg_code 24) 2 = .ok (.putfield 44, 3) := by decide +kernel
theorem d24_5 : decode (pg_code 24) 5 = .ok (.aload_n 0, 1) := by decide +kernel
theorem d24_6 : decode (pg_code 24) 6 = .ok (.aload_n 2, 1) := by decide +kernel
theorem d24_7 : decode (pg_code 24) 7 = .ok (.putfield 48, 3) := by decide +kernel
theorem d24_10 : decode (pg_code 24) 10 = .ok (.aload_n 0, 1) := by decide +kernel
theorem d24_11 : decode (pg_code 24) 11 = .ok (.iconst 0, 1) := by decide +kernel
theorem d24_12 : decode (pg_code 24) 12 = .ok (.putfield 51, 3) := by decide +kernel
theorem d24_15 : decode (pg_code 24) 15 = .ok (.aload_n 0, 1) := by decide +kernel
theorem d24_16 : decode (pg_code 24) 16 = .ok (.getfield 12, 3) := by decide +kernel
theorem d24_19 : decode (pg_code 24) 19 = .ok (.aload_n 0, 1) := by decide +kernel
theorem d24_20 : decode (pg_code 24) 20 = .ok (.getfield 44, 3) := by decide +kernel
theorem d24_23 : decode (pg_code 24) 23 = .ok (.aload_n 0, 1) := by decide +kernel
theorem d24_24 : decode (pg_code 24) 24 = .ok (.getfield 48, 3) := by decide +kernel
theorem d24_27 : decode (pg_code 24) 27 = .ok (.invokevirtual 55, 3) := by decide +kernel
theorem d24_30 : decode (pg_code 24) 30 = .ok (.aload_n 0, 1) := by decide +kernel
theorem d24_31 : decode (pg_code 24) 31 = .ok (.invokevirtual 59, 3) := by decide +kernel
theorem d24_34 : decode (pg_code 24) 34 = .ok (.aload_n 0, 1) := by decide +kernel
theorem d24_35 : decode (pg_code 24) 35 = .ok (.getfield 21, 3) := by decide +kernel
theorem d24_38 : decode (pg_code 24) 38 = .ok (.invokevirtual 62, 3) := by decide +kernel
theorem d24_41 : decode (pg_code 24) 41 = .ok (.aload_n 0, 1) := by decide +kernel
theorem d24_42 : decode (pg_code 24) 42 = .ok (.iconst 0, 1) := by decide +kernel
theorem d24_43 : decode (pg_code 24) 43 = .ok (.iconst (-1), 1) := by decide +kernel
theorem d24_44 : decode (pg_code 24) 44 = .ok (.iconst (-1), 1) := by decide +kernel
theorem d24_45 : decode (pg_code 24) 45 = .ok (.iconst 0, 1) := by decide +kernel
theorem d24_46 : decode (pg_code 24) 46 = .ok (.invokevirtual 65, 3) := by decide +kernel
theorem d24_49 : decode (pg_code 24) 49 = .ok (.pop, 1) := by decide +kernel
theorem d24_50 : decode (pg_code 24) 50 = .ok (.aload_n 0, 1) := by decide +kernel
theorem d24_51 : decode (pg_code 24) 51 = .ok (.invokevirtual 69, 3) := by decide +kernel
theorem d24_54 : decode (pg_code 24) 54 = .ok (.return_, 1) := by decide +kernel
theorem e24 {b1 b2 b3 : Value} : am_Call L xs d 24 [b1, b2, b3] σ Q = am_Rn L xs d 24 0 [b1, b2, b3] [] σ Q := rfl
theorem r24_0  : am_Rn L xs d 24 0 ls st σ Q = am_la ls 0 (fun x => am_Rn L xs d 24 1 ls (x :: st) σ Q) := am_r_aload_n d24_0
theorem r24_1  : am_Rn L xs d 24 1 ls st σ Q = am_la ls 1 (fun x => am_Rn L xs d 24 2 ls (x :: st) σ Q) := am_r_aload_n d24_1
theorem r24_2 {p : Nat} {v : Value} : am_Rn L xs d 24 2 ls (v :: .ref p :: st) σ Q = am_wf 24 4 σ p 4 6 v (fun σ1 => am_Rn L xs d 24 5 ls st σ1 Q) := am_r_putfield d24_2 rfl
theorem r24_5  : am_Rn L xs d 24 5 ls st σ Q = am_la ls 0 (fun x => am_Rn L xs d 24 6 ls (x :: st) σ Q) := am_r_aload_n d24_5
theorem r24_6  : am_Rn L xs d 24 6 ls st σ Q = am_la ls 2 (fun x => am_Rn L xs d 24 7 ls (x :: st) σ Q) := am_r_aload_n d24_6
theorem r24_7 {p : Nat} {v : Value} : am_Rn L xs d 24 7 ls (v :: .ref p :: st) σ Q = am_wf 24 4 σ p 4 7 v (fun σ1 => am_Rn L xs d 24 10 ls st σ1 Q) := am_r_putfield d24_7 rfl
theorem r24_10  : am_Rn L xs d 24 10 ls st σ Q = am_la ls 0 (fun x => am_Rn L xs d 24 11 ls (x :: st) σ Q) := am_r_aload_n d24_10
theorem r24_11  : am_Rn L xs d 24 11 ls st σ Q = am_Rn L xs d 24 12 ls (.int 0 :: st) σ Q := am_r_iconst d24_11 (by decide)
theorem r24_12 {p : Nat} {v : Value} : am_Rn L xs d 24 12 ls (v :: .ref p :: st) σ Q = am_wf 24 4 σ p 4 8 v (fun σ1 => am_Rn L xs d 24 15 ls st σ1 Q) := am_r_putfield d24_12 rfl
theorem r24_15  : am_Rn L xs d 24 15 ls st σ Q = am_la ls 0 (fun x => am_Rn L xs d 24 16 ls (x :: st) σ Q) := am_r_aload_n d24_15
theorem r24_16 {p : Nat} : am_Rn L xs d 24 16 ls (.ref p :: st) σ Q = am_fd σ p 4 0 (fun v => am_Rn L xs d 24 19 ls (v :: st) σ Q) := am_r_getfield d24_16 rfl
theorem r24_19  : am_Rn L xs d 24 19 ls st σ Q = am_la ls 0 (fun x => am_Rn L xs d 24 20 ls (x :: st) σ Q) := am_r_aload_n d24_19
theorem r24_20 {p : Nat} : am_Rn L xs d 24 20 ls (.ref p :: st) σ Q = am_fd σ p 4 6 (fun v => am_Rn L xs d 24 23 ls (v :: st) σ Q) := am_r_getfield d24_20 rfl
theorem r24_23  : am_Rn L xs d 24 23 ls st σ Q = am_la ls 0 (fun x => am_Rn L xs d 24 24 ls (x :: st) σ Q) := am_r_aload_n d24_23
theorem r24_24 {p : Nat} : am_Rn L xs d 24 24 ls (.ref p :: st) σ Q = am_fd σ p 4 7 (fun v => am_Rn L xs d 24 27 ls (v :: st) σ Q) := am_r_getfield d24_24 rfl
theorem r24_27 {a1 a2 : Value} {p : Nat} : am_Rn L xs (d + 1) 24 27 ls (a2 :: a1 :: .ref p :: st) σ Q = ((am_oc σ p = 3 ∧ st.length ≤ 4 ∧ am_ok a1 = true ∧ am_ok a2 = true) ∧ am_Call L xs d 25 [.ref p, a1, a2] σ (fun r σ1 => am_Rn L xs (d + 1) 24 30 ls (r.toList ++ st) σ1 Q)) := am_R_virtual2 d24_27 rfl ⟨by decide, rfl⟩ rfl rfl (by decide)
theorem r24_30  : am_Rn L xs d 24 30 ls st σ Q = am_la ls 0 (fun x => am_Rn L xs d 24 31 ls (x :: st) σ Q) := am_r_aload_n d24_30
theorem r24_31 {p : Nat} : am_Rn L xs (d + 1) 24 31 ls (.ref p :: st) σ Q = ((am_oc σ p = 4 ∧ st.length ≤ 4) ∧ am_Call L xs d 41 [.ref p] σ (fun r σ1 => am_Rn L xs (d + 1) 24 34 ls (r.toList ++ st) σ1 Q)) := am_R_virtual0 d24_31 rfl ⟨by decide, rfl⟩ rfl rfl (by decide)
theorem r24_34  : am_Rn L xs d 24 34 ls st σ Q = am_la ls 0 (fun x => am_Rn L xs d 24 35 ls (x :: st) σ Q) := am_r_aload_n d24_34
theorem r24_35 {p : Nat} : am_Rn L xs d 24 35 ls (.ref p :: st) σ Q = am_fd σ p 4 1 (fun v => am_Rn L xs d 24 38 ls (v :: st) σ Q) := am_r_getfield d24_35 rfl
theorem r24_38 {p : Nat} : am_Rn L xs (d + 1) 24 38 ls (.ref p :: st) σ Q = ((am_oc σ p = 2 ∧ st.length ≤ 4) ∧ am_Call L xs d 46 [.ref p] σ (fun r σ1 => am_Rn L xs (d + 1) 24 41 ls (r.toList ++ st) σ1 Q)) := am_R_virtual0 d24_38 rfl ⟨by decide, rfl⟩ rfl rfl (by decide)
theorem r24_41  : am_Rn L xs d 24 41 ls st σ Q = am_la ls 0 (fun x => am_Rn L xs d 24 42 ls (x :: st) σ Q) := am_r_aload_n d24_41
theorem r24_42  : am_Rn L xs d 24 42 ls st σ Q = am_Rn L xs d 24 43 ls (.int 0 :: st) σ Q := am_r_iconst d24_42 (by decide)
theorem r24_43  : am_Rn L xs d 24 43 ls st σ Q = am_Rn L xs d 24 44 ls (.int (-1) :: st) σ Q := am_r_iconst d24_43 (by decide)
theorem r24_44  : am_Rn L xs d 24 44 ls st σ Q = am_Rn L xs d 24 45 ls (.int (-1) :: st) σ Q := am_r_iconst d24_44 (by decide)
theorem r24_45  : am_Rn L xs d 24 45 ls st σ Q = am_Rn L xs d 24 46 ls (.int 0 :: st) σ Q := am_r_iconst d24_45 (by decide)
theorem r24_46 {a1 a2 a3 a4 : Value} {p : Nat} : am_Rn L xs (d + 1) 24 46 ls (a4 :: a3 :: a2 :: a1 :: .ref p :: st) σ Q = ((am_oc σ p = 4 ∧ st.length ≤ 4 ∧ am_ok a1 = true ∧ am_ok a2 = true ∧ am_ok a3 = true ∧ am_ok a4 = true) ∧ am_Call L xs d 47 [.ref p, a1, a2, a3, a4] σ (fun r σ1 => am_Rn L xs (d + 1) 24 49 ls (r.toList ++ st) σ1 Q)) := am_R_virtual4 d24_46 rfl ⟨by decide, rfl⟩ rfl rfl (by decide)
theorem r24_49 {a : Value} : am_Rn L xs d 24 49 ls (a :: st) σ Q = (am_ok a = true ∧ am_Rn L xs d 24 50 ls st σ Q) := am_r_pop d24_49
theorem r24_50  : am_Rn L xs d 24 50 ls st σ Q = am_la ls 0 (fun x => am_Rn L xs d 24 51 ls (x :: st) σ Q) := am_r_aload_n d24_50
theorem r24_51 {p : Nat} : am_Rn L xs (d + 1) 24 51 ls (.ref p :: st) σ Q = ((am_oc σ p = 4 ∧ st.length ≤ 4) ∧ am_Call L xs d 54 [.ref p] σ (fun r σ1 => am_Rn L xs (d + 1) 24 54 ls (r.toList ++ st) σ1 Q)) := am_R_virtual0 d24_51 rfl ⟨by decide, rfl⟩ rfl rfl (by decide)
theorem r24_54  : am_Rn L xs d 24 54 ls [] σ Q = Q none σ := am_r_return d24_54 rfl
theorem d41_0 : decode (pg_code 41) 0 = .ok (.iconst 0, 1) := by decide +kernel
theorem d41_1 : decode (pg_code 41) 1 = .ok (.istore_n 1, 1) := by decide +kernel
theorem d41_2 : decode (pg_code 41) 2 = .ok (.iload_n 1, 1) := by decide +kernel
theorem d41_3 : decode (pg_code 41) 3 = .ok (.aload_n 0, 1) := by decide +kernel
theorem d41_4 : decode (pg_code 41) 4 = .ok (.getfield 44, 3) := by decide +kernel
theorem d41_7 : decode (pg_code 41) 7 = .ok (.getfield 72, 3) := by decide +kernel
theorem d41_10 : decode (pg_code 41) 10 = .ok (.if_icmp .ge 16, 3) := by decide +kernel
theorem d41_13 : decode (pg_code 41) 13 = .ok (.aload_n 0, 1) := by decide +kernel
theorem d41_14 : decode (pg_code 41) 14 = .ok (.getfield 25, 3) := by decide +kernel
theorem d41_17 : decode (pg_code 41) 17 = .ok (.iload_n 1, 1) := by decide +kernel
theorem d41_18 : decode (pg_code 41) 18 = .ok (.iconst 0, 1) := by decide +kernel
theorem d41_19 : decode (pg_code 41) 19 = .ok (.bastore, 1) := by decide +kernel
theorem d41_20 : decode (pg_code 41) 20 = .ok (.iinc 1 1, 3) := by decide +kernel
theorem d41_23 : decode (pg_code 41) 23 = .ok (.goto (-21), 3) := by decide +kernel
theorem d41_26 : decode (pg_code 41) 26 = .ok (.aload_n 0, 1) := by decide +kernel
theorem d41_27 : decode (pg_code 41) 27 = .ok (.iconst (-1), 1) := by decide +kernel
theorem d41_28 : decode (pg_code 41) 28 = .ok (.iconst (-1), 1) := by decide +kernel
theorem d41_29 : decode (pg_code 41) 29 = .ok (.invokevirtual 75, 3) := by decide +kernel
theorem d41_32 : decode (pg_code 41) 32 = .ok (.iconst 0, 1) := by decide +kernel
theorem d41_33 : decode (pg_code 41) 33 = .ok (.istore_n 1, 1) := by decide +kernel
theorem d41_34 : decode (pg_code 41) 34 = .ok (.iload_n 1, 1) := by decide +kernel
theorem d41_35 : decode (pg_code 41) 35 = .ok (.aload_n 0, 1) := by decide +kernel
theorem d41_36 : decode (pg_code 41) 36 = .ok (.getfield 44, 3) := by decide +kernel
theorem d41_39 : decode (pg_code 41) 39 = .ok (.getfield 72, 3) := by decide +kernel
theorem d41_42 : decode (pg_code 41) 42 = .ok (.if_icmp .ge 34, 3) := by decide +kernel
theorem d41_45 : decode (pg_code 41) 45 = .ok (.aload_n 0, 1) := by decide +kernel
theorem d41_46 : decode (pg_code 41) 46 = .ok (.getfield 12, 3) := by decide +kernel
theorem d41_49 : decode (pg_code 41) 49 = .ok (.iload_n 1, 1) := by decide +kernel
theorem d41_50 : decode (pg_code 41) 50 = .ok (.invokevirtual 79, 3) := by decide +kernel
theorem d41_53 : decode (pg_code 41) 53 = .ok (.iconst (-1), 1) := by decide +kernel
theorem d41_54 : decode (pg_code 41) 54 = .ok (.if_icmp .eq 16, 3) := by decide +kernel
theorem d41_57 : decode (pg_code 41) 57 = .ok (.aload_n 0, 1) := by decide +kernel
theorem d41_58 : decode (pg_code 41) 58 = .ok (.iload_n 1, 1) := by decide +kernel
theorem d41_59 : decode (pg_code 41) 59 = .ok (.aload_n 0, 1) := by decide +kernel
theorem d41_60 : decode (pg_code 41) 60 = .ok (.getfield 12, 3) := by decide +kernel
theorem d41_63 : decode (pg_code 41) 63 = .ok (.iload_n 1, 1) := by decide +kernel
theorem d41_64 : decode (pg_code 41) 64 = .ok (.invokevirtual 79, 3) := by decide +kernel
theorem d41_67 : decode (pg_code 41) 67 = .ok (.invokevirtual 75, 3) := by decide +kernel
theorem d41_70 : decode (pg_code 41) 70 = .ok (.iinc 1 1, 3) := by decide +kernel
theorem d41_73 : decode (pg_code 41) 73 = .ok (.goto (-39), 3) := by decide +kernel
theorem d41_76 : decode (pg_code 41) 76 = .ok (.return_, 1) := by decide +kernel
theorem e41 {b1 : Value} : am_Call L xs d 41 [b1] σ Q = am_Rn L xs d 41 0 [b1, .retAddr 0] [] σ Q := rfl
theorem r41_0  : am_Rn L xs d 41 0 ls st σ Q = am_Rn L xs d 41 1 ls (.int 0 :: st) σ Q := am_r_iconst d41_0 (by decide)
theorem r41_1 {x : Int32} : am_Rn L xs d 41 1 ls (.int x :: st) σ Q = (1 < ls.length ∧ am_Rn L xs d 41 2 (ls.set 1 (.int x)) st σ Q) := am_r_istore_n d41_1
theorem r41_2  : am_Rn L xs d 41 2 ls st σ Q = am_li ls 1 (fun x => am_Rn L xs d 41 3 ls (.int x :: st) σ Q) := am_r_iload_n d41_2
theorem r41_3  : am_Rn L xs d 41 3 ls st σ Q = am_la ls 0 (fun x => am_Rn L xs d 41 4 ls (x :: st) σ Q) := am_r_aload_n d41_3
theorem r41_4 {p : Nat} : am_Rn L xs d 41 4 ls (.ref p :: st) σ Q = am_fd σ p 4 6 (fun v => am_Rn L xs d 41 7 ls (v :: st) σ Q) := am_r_getfield d41_4 rfl
theorem r41_7 {p : Nat} : am_Rn L xs d 41 7 ls (.ref p :: st) σ Q = am_fd σ p 1 4 (fun v => am_Rn L xs d 41 10 ls (v :: st) σ Q) := am_r_getfield d41_7 rfl
theorem r41_10 {a b : Int32} : am_Rn L xs d 41 10 ls (.int b :: .int a :: st) σ Q = if b ≤ a then am_Rn L xs d 41 26 ls st σ Q else am_Rn L xs d 41 13 ls st σ Q := (am_r_icmp (t := 26) d41_10 (by decide)).trans (am_ite _ _ trivial (by simp only [am_cond, decide_eq_true_eq]))
theorem r41_13  : am_Rn L xs d 41 13 ls st σ Q = am_la ls 0 (fun x => am_Rn L xs d 41 14 ls (x :: st) σ Q) := am_r_aload_n d41_13
theorem r41_14 {p : Nat} : am_Rn L xs d 41 14 ls (.ref p :: st) σ Q = am_fd σ p 4 2 (fun v => am_Rn L xs d 41 17 ls (v :: st) σ Q) := am_r_getfield d41_14 rfl
theorem r41_17  : am_Rn L xs d 41 17 ls st σ Q = am_li ls 1 (fun x => am_Rn L xs d 41 18 ls (.int x :: st) σ Q) := am_r_iload_n d41_17
theorem r41_18  : am_Rn L xs d 41 18 ls st σ Q = am_Rn L xs d 41 19 ls (.int 0 :: st) σ Q := am_r_iconst d41_18 (by decide)
theorem r41_19 {p : Nat} {i x : Int32} : am_Rn L xs d 41 19 ls (.int x :: .int i :: .ref p :: st) σ Q = am_wi 1 σ p i (vp_nar .boolean x) (fun σ1 => am_Rn L xs d 41 20 ls st σ1 Q) := am_r_bastore d41_19
theorem r41_20  : am_Rn L xs d 41 20 ls st σ Q = am_li ls 1 (fun x => am_Rn L xs d 41 23 (ls.set 1 (.int (x + 1))) st σ Q) := am_r_iinc d41_20 (by decide)
theorem r41_23  : am_Rn L xs d 41 23 ls st σ Q = am_Rn L xs d 41 2 ls st σ Q := am_r_goto d41_23 (by decide)
theorem r41_26  : am_Rn L xs d 41 26 ls st σ Q = am_la ls 0 (fun x => am_Rn L xs d 41 27 ls (x :: st) σ Q) := am_r_aload_n d41_26
theorem r41_27  : am_Rn L xs d 41 27 ls st σ Q = am_Rn L xs d 41 28 ls (.int (-1) :: st) σ Q := am_r_iconst d41_27 (by decide)
theorem r41_28  : am_Rn L xs d 41 28 ls st σ Q = am_Rn L xs d 41 29 ls (.int (-1) :: st) σ Q := am_r_iconst d41_28 (by decide)
theorem r41_29 {a1 a2 : Value} {p : Nat} : am_Rn L xs (d + 1) 41 29 ls (a2 :: a1 :: .ref p :: st) σ Q = ((am_oc σ p = 4 ∧ st.length ≤ 4 ∧ am_ok a1 = true ∧ am_ok a2 = true) ∧ am_Call L xs d 42 [.ref p, a1, a2] σ (fun r σ1 => am_Rn L xs (d + 1) 41 32 ls (r.toList ++ st) σ1 Q)) := am_R_virtual2 d41_29 rfl ⟨by decide, rfl⟩ rfl rfl (by decide)
theorem r41_32  : am_Rn L xs d 41 32 ls st σ Q = am_Rn L xs d 41 33 ls (.int 0 :: st) σ Q := am_r_iconst d41_32 (by decide)
theorem r41_33 {x : Int32} : am_Rn L xs d 41 33 ls (.int x :: st) σ Q = (1 < ls.length ∧ am_Rn L xs d 41 34 (ls.set 1 (.int x)) st σ Q) := am_r_istore_n d41_33
theorem r41_34  : am_Rn L xs d 41 34 ls st σ Q = am_li ls 1 (fun x => am_Rn L xs d 41 35 ls (.int x :: st) σ Q) := am_r_iload_n d41_34
theorem r41_35  : am_Rn L xs d 41 35 ls st σ Q = am_la ls 0 (fun x => am_Rn L xs d 41 36 ls (x :: st) σ Q) := am_r_aload_n d41_35
theorem r41_36 {p : Nat} : am_Rn L xs d 41 36 ls (.ref p :: st) σ Q = am_fd σ p 4 6 (fun v => am_Rn L xs d 41 39 ls (v :: st) σ Q) := am_r_getfield d41_36 rfl
theorem r41_39 {p : Nat} : am_Rn L xs d 41 39 ls (.ref p :: st) σ Q = am_fd σ p 1 4 (fun v => am_Rn L xs d 41 42 ls (v :: st) σ Q) := am_r_getfield d41_39 rfl
theorem r41_42 {a b : Int32} : am_Rn L xs d 41 42 ls (.int b :: .int a :: st) σ Q = if b ≤ a then am_Rn L xs d 41 76 ls st σ Q else am_Rn L xs d 41 45 ls st σ Q := (am_r_icmp (t := 76) d41_42 (by decide)).trans (am_ite _ _ trivial (by simp only [am_cond, decide_eq_true_eq]))
theorem r41_45  : am_Rn L xs d 41 45 ls st σ Q = am_la ls 0 (fun x => am_Rn L xs d 41 46 ls (x :: st) σ Q) := am_r_aload_n d41_45
theorem r41_46 {p : Nat} : am_Rn L xs d 41 46 ls (.ref p :: st) σ Q = am_fd σ p 4 0 (fun v => am_Rn L xs d 41 49 ls (v :: st) σ Q) := am_r_getfield d41_46 rfl
theorem r41_49  : am_Rn L xs d 41 49 ls st σ Q = am_li ls 1 (fun x => am_Rn L xs d 41 50 ls (.int x :: st) σ Q) := am_r_iload_n d41_49
theorem r41_50 {a1 : Value} {p : Nat} : am_Rn L xs (d + 1) 41 50 ls (a1 :: .ref p :: st) σ Q = ((am_oc σ p = 3 ∧ st.length ≤ 4 ∧ am_ok a1 = true) ∧ am_Call L xs d 44 [.ref p, a1] σ (fun r σ1 => am_Rn L xs (d + 1) 41 53 ls (r.toList ++ st) σ1 Q)) := am_R_virtual1 d41_50 rfl ⟨by decide, rfl⟩ rfl rfl (by decide)
theorem r41_53  : am_Rn L xs d 41 53 ls st σ Q = am_Rn L xs d 41 54 ls (.int (-1) :: st) σ Q := am_r_iconst d41_53 (by decide)
theorem r41_54 {a b : Int32} : am_Rn L xs d 41 54 ls (.int b :: .int a :: st) σ Q = if a = b then am_Rn L xs d 41 70 ls st σ Q else am_Rn L xs d 41 57 ls st σ Q := (am_r_icmp (t := 70) d41_54 (by decide)).trans (am_ite _ _ trivial (by simp only [am_cond, decide_eq_true_eq]))
theorem r41_57  : am_Rn L xs d 41 57 ls st σ Q = am_la ls 0 (fun x => am_Rn L xs d 41 58 ls (x :: st) σ Q) := am_r_aload_n d41_57
theorem r41_58  : am_Rn L xs d 41 58 ls st σ Q = am_li ls 1 (fun x => am_Rn L xs d 41 59 ls (.int x :: st) σ Q) := am_r_iload_n d41_58
theorem r41_59  : am_Rn L xs d 41 59 ls st σ Q = am_la ls 0 (fun x => am_Rn L xs d 41 60 ls (x :: st) σ Q) := am_r_aload_n d41_59
theorem r41_60 {p : Nat} : am_Rn L xs d 41 60 ls (.ref p :: st) σ Q = am_fd σ p 4 0 (fun v => am_Rn L xs d 41 63 ls (v :: st) σ Q) := am_r_getfield d41_60 rfl
theorem r41_63  : am_Rn L xs d 41 63 ls st σ Q = am_li ls 1 (fun x => am_Rn L xs d 41 64 ls (.int x :: st) σ Q) := am_r_iload_n d41_63
theorem r41_64 {a1 : Value} {p : Nat} : am_Rn L xs (d + 1) 41 64 ls (a1 :: .ref p :: st) σ Q = ((am_oc σ p = 3 ∧ st.length ≤ 4 ∧ am_ok a1 = true) ∧ am_Call L xs d 44 [.ref p, a1] σ (fun r σ1 => am_Rn L xs (d + 1) 41 67 ls (r.toList ++ st) σ1 Q)) := am_R_virtual1 d41_64 rfl ⟨by decide, rfl⟩ rfl rfl (by decide)
theorem r41_67 {a1 a2 : Value} {p : Nat} : am_Rn L xs (d + 1) 41 67 ls (a2 :: a1 :: .ref p :: st) σ Q = ((am_oc σ p = 4 ∧ st.length ≤ 4 ∧ am_ok a1 = true ∧ am_ok a2 = true) ∧ am_Call L xs d 42 [.ref p, a1, a2] σ (fun r σ1 => am_Rn L xs (d + 1) 41 70 ls (r.toList ++ st) σ1 Q)) := am_R_virtual2 d41_67 rfl ⟨by decide, rfl⟩ rfl rfl (by decide)
theorem r41_70  : am_Rn L xs d 41 70 ls st σ Q = am_li ls 1 (fun x => am_Rn L xs d 41 73 (ls.set 1 (.int (x + 1))) st σ Q) := am_r_iinc d41_70 (by decide)
theorem r41_73  : am_Rn L xs d 41 73 ls st σ Q = am_Rn L xs d 41 34 ls st σ Q := am_r_goto d41_73 (by decide)
theorem r41_76  : am_Rn L xs d 41 76 ls [] σ Q = Q none σ := am_r_return d41_76 rfl
theorem d42_0 : decode (pg_code 42) 0 = .ok (.aload_n 0, 1) := by decide +kernel
theorem d42_1 : decode (pg_code 42) 1 = .ok (.iload_n 1, 1) := by decide +kernel
theorem d42_2 : decode (pg_code 42) 2 = .ok (.iload_n 2, 1) := by decide +kernel
theorem d42_3 : decode (pg_code 42) 3 = .ok (.invokevirtual 83, 3) := by decide +kernel
theorem d42_6 : decode (pg_code 42) 6 = .ok (.istore_n 3, 1) := by decide +kernel
theorem d42_7 : decode (pg_code 42) 7 = .ok (.aload_n 0, 1) := by decide +kernel
theorem d42_8 : decode (pg_code 42) 8 = .ok (.iload_n 3, 1) := by decide +kernel
theorem d42_9 : decode (pg_code 42) 9 = .ok (.invokevirtual 87, 3) := by decide +kernel
theorem d42_12 : decode (pg_code 42) 12 = .ok (.istore 4, 2) := by decide +kernel
theorem d42_14 : decode (pg_code 42) 14 = .ok (.iconst (-1), 1) := by decide +kernel
theorem d42_15 : decode (pg_code 42) 15 = .ok (.istore 5, 2) := by decide +kernel
theorem d42_17 : decode (pg_code 42) 17 = .ok (.iconst 0, 1) := by decide +kernel
theorem d42_18 : decode (pg_code 42) 18 = .ok (.istore 6, 2) := by decide +kernel
theorem d42_20 : decode (pg_code 42) 20 = .ok (.iload 6, 2) := by decide +kernel
theorem d42_22 : decode (pg_code 42) 22 = .ok (.iload_n 3, 1) := by decide +kernel
theorem d42_23 : decode (pg_code 42) 23 = .ok (.if_icmp .ge 63, 3) := by decide +kernel
theorem d42_26 : decode (pg_code 42) 26 = .ok (.iload 4, 2) := by decide +kernel
theorem d42_28 : decode (pg_code 42) 28 = .ok (.ifCond .le 58, 3) := by decide +kernel
theorem d42_31 : decode (pg_code 42) 31 = .ok (.aload_n 0, 1) := by decide +kernel
theorem d42_32 : decode (pg_code 42) 32 = .ok (.getfield 36, 3) := by decide +kernel
theorem d42_35 : decode (pg_code 42) 35 = .ok (.iload 6, 2) := by decide +kernel
theorem d42_37 : decode (pg_code 42) 37 = .ok (.iaload, 1) := by decide +kernel
theorem d42_38 : decode (pg_code 42) 38 = .ok (.iload 4, 2) := by decide +kernel
theorem d42_40 : decode (pg_code 42) 40 = .ok (.if_icmp .ne 40, 3) := by decide +kernel
theorem d42_43 : decode (pg_code 42) 43 = .ok (.aload_n 0, 1) := by decide +kernel
theorem d42_44 : decode (pg_code 42) 44 = .ok (.getfield 33, 3) := by decide +kernel
theorem d42_47 : decode (pg_code 42) 47 = .ok (.iload 6, 2) := by decide +kernel
theorem d42_49 : decode (pg_code 42) 49 = .ok (.iaload, 1) := by decide +kernel
theorem d42_50 : decode (pg_code 42) 50 = .ok (.iload 5, 2) := by decide +kernel
theorem d42_52 : decode (pg_code 42) 52 = .ok (.if_icmp .le 28, 3) := by decide +kernel
theorem d42_55 : decode (pg_code 42) 55 = .ok (.aload_n 0, 1) := by decide +kernel
theorem d42_56 : decode (pg_code 42) 56 = .ok (.getfield 25, 3) := by decide +kernel
theorem d42_59 : decode (pg_code 42) 59 = .ok (.aload_n 0, 1) := by decide +kernel
theorem d42_60 : decode (pg_code 42) 60 = .ok (.getfield 29, 3) := by decide +kernel
theorem d42_63 : decode (pg_code 42) 63 = .ok (.iload 6, 2) := by decide +kernel
theorem d42_65 : decode (pg_code 42) 65 = .ok (.iaload, 1) := by decide +kernel
theorem d42_66 : decode (pg_code 42) 66 = .ok (.iconst 1, 1) := by decide +kernel
theorem d42_67 : decode (pg_code 42) 67 = .ok (.bastore, 1) := by decide +kernel
theorem d42_68 : decode (pg_code 42) 68 = .ok (.aload_n 0, 1) := by decide +kernel
theorem d42_69 : decode (pg_code 42) 69 = .ok (.getfield 33, 3) := by decide +kernel
theorem d42_72 : decode (pg_code 42) 72 = .ok (.iload 6, 2) := by decide +kernel
theorem d42_74 : decode (pg_code 42) 74 = .ok (.iaload, 1) := by decide +kernel
theorem d42_75 : decode (pg_code 42) 75 = .ok (.istore 5, 2) := by decide +kernel
theorem d42_77 : decode (pg_code 42) 77 = .ok (.iinc 4 (-1), 3) := by decide +kernel
theorem d42_80 : decode (pg_code 42) 80 = .ok (.iinc 6 1, 3) := by decide +kernel
theorem d42_83 : decode (pg_code 42) 83 = .ok (.goto (-63), 3) := by decide +kernel
theorem d42_86 : decode (pg_code 42) 86 = .ok (.return_, 1) := by decide +kernel
theorem e42 {b1 b2 b3 : Value} : am_Call L xs d 42 [b1, b2, b3] σ Q = am_Rn L xs d 42 0 [b1, b2, b3, .retAddr 0, .retAddr 0, .retAddr 0, .retAddr 0] [] σ Q := rfl
theorem r42_0  : am_Rn L xs d 42 0 ls st σ Q = am_la ls 0 (fun x => am_Rn L xs d 42 1 ls (x :: st) σ Q) := am_r_aload_n d42_0
theorem r42_1  : am_Rn L xs d 42 1 ls st σ Q = am_li ls 1 (fun x => am_Rn L xs d 42 2 ls (.int x :: st) σ Q) := am_r_iload_n d42_1
theorem r42_2  : am_Rn L xs d 42 2 ls st σ Q = am_li ls 2 (fun x => am_Rn L xs d 42 3 ls (.int x :: st) σ Q) := am_r_iload_n d42_2
theorem r42_3 {a1 a2 : Value} {p : Nat} : am_Rn L xs (d + 1) 42 3 ls (a2 :: a1 :: .ref p :: st) σ Q = ((am_oc σ p = 4 ∧ st.length ≤ 4 ∧ am_ok a1 = true ∧ am_ok a2 = true) ∧ am_Call L xs d 43 [.ref p, a1, a2] σ (fun r σ1 => am_Rn L xs (d + 1) 42 6 ls (r.toList ++ st) σ1 Q)) := am_R_virtual2 d42_3 rfl ⟨by decide, rfl⟩ rfl rfl (by decide)
theorem r42_6 {x : Int32} : am_Rn L xs d 42 6 ls (.int x :: st) σ Q = (3 < ls.length ∧ am_Rn L xs d 42 7 (ls.set 3 (.int x)) st σ Q) := am_r_istore_n d42_6
theorem r42_7  : am_Rn L xs d 42 7 ls st σ Q = am_la ls 0 (fun x => am_Rn L xs d 42 8 ls (x :: st) σ Q) := am_r_aload_n d42_7
theorem r42_8  : am_Rn L xs d 42 8 ls st σ Q = am_li ls 3 (fun x => am_Rn L xs d 42 9 ls (.int x :: st) σ Q) := am_r_iload_n d42_8
theorem r42_9 {a1 : Value} {p : Nat} : am_Rn L xs (d + 1) 42 9 ls (a1 :: .ref p :: st) σ Q = ((am_oc σ p = 4 ∧ st.length ≤ 4 ∧ am_ok a1 = true) ∧ am_Call L xs d 45 [.ref p, a1] σ (fun r σ1 => am_Rn L xs (d + 1) 42 12 ls (r.toList ++ st) σ1 Q)) := am_R_virtual1 d42_9 rfl ⟨by decide, rfl⟩ rfl rfl (by decide)
theorem r42_12 {x : Int32} : am_Rn L xs d 42 12 ls (.int x :: st) σ Q = (4 < ls.length ∧ am_Rn L xs d 42 14 (ls.set 4 (.int x)) st σ Q) := am_r_istore d42_12
theorem r42_14  : am_Rn L xs d 42 14 ls st σ Q = am_Rn L xs d 42 15 ls (.int (-1) :: st) σ Q := am_r_iconst d42_14 (by decide)
theorem r42_15 {x : Int32} : am_Rn L xs d 42 15 ls (.int x :: st) σ Q = (5 < ls.length ∧ am_Rn L xs d 42 17 (ls.set 5 (.int x)) st σ Q) := am_r_istore d42_15
theorem r42_17  : am_Rn L xs d 42 17 ls st σ Q = am_Rn L xs d 42 18 ls (.int 0 :: st) σ Q := am_r_iconst d42_17 (by decide)
theorem r42_18 {x : Int32} : am_Rn L xs d 42 18 ls (.int x :: st) σ Q = (6 < ls.length ∧ am_Rn L xs d 42 20 (ls.set 6 (.int x)) st σ Q) := am_r_istore d42_18
theorem r42_20  : am_Rn L xs d 42 20 ls st σ Q = am_li ls 6 (fun x => am_Rn L xs d 42 22 ls (.int x :: st) σ Q) := am_r_iload d42_20
theorem r42_22  : am_Rn L xs d 42 22 ls st σ Q = am_li ls 3 (fun x => am_Rn L xs d 42 23 ls (.int x :: st) σ Q) := am_r_iload_n d42_22
theorem r42_23 {a b : Int32} : am_Rn L xs d 42 23 ls (.int b :: .int a :: st) σ Q = if b ≤ a then am_Rn L xs d 42 86 ls st σ Q else am_Rn L xs d 42 26 ls st σ Q := (am_r_icmp (t := 86) d42_23 (by decide)).trans (am_ite _ _ trivial (by simp only [am_cond, decide_eq_true_eq]))
theorem r42_26  : am_Rn L xs d 42 26 ls st σ Q = am_li ls 4 (fun x => am_Rn L xs d 42 28 ls (.int x :: st) σ Q) := am_r_iload d42_26
theorem r42_28 {a : Int32} : am_Rn L xs d 42 28 ls (.int a :: st) σ Q = if a ≤ 0 then am_Rn L xs d 42 86 ls st σ Q else am_Rn L xs d 42 31 ls st σ Q := (am_r_if (t := 86) d42_28 (by decide)).trans (am_ite _ _ trivial (by simp only [am_cond, decide_eq_true_eq]))
theorem r42_31  : am_Rn L xs d 42 31 ls st σ Q = am_la ls 0 (fun x => am_Rn L xs d 42 32 ls (x :: st) σ Q) := am_r_aload_n d42_31
theorem r42_32 {p : Nat} : am_Rn L xs d 42 32 ls (.ref p :: st) σ Q = am_fd σ p 4 5 (fun v => am_Rn L xs d 42 35 ls (v :: st) σ Q) := am_r_getfield d42_32 rfl
theorem r42_35  : am_Rn L xs d 42 35 ls st σ Q = am_li ls 6 (fun x => am_Rn L xs d 42 37 ls (.int x :: st) σ Q) := am_r_iload d42_35
theorem r42_37 {p : Nat} {i : Int32} : am_Rn L xs d 42 37 ls (.int i :: .ref p :: st) σ Q = am_ai 0 σ p i (fun x => am_Rn L xs d 42 38 ls (.int x :: st) σ Q) := am_r_iaload d42_37
theorem r42_38  : am_Rn L xs d 42 38 ls st σ Q = am_li ls 4 (fun x => am_Rn L xs d 42 40 ls (.int x :: st) σ Q) := am_r_iload d42_38
theorem r42_40 {a b : Int32} : am_Rn L xs d 42 40 ls (.int b :: .int a :: st) σ Q = if ¬ a = b then am_Rn L xs d 42 80 ls st σ Q else am_Rn L xs d 42 43 ls st σ Q := (am_r_icmp (t := 80) d42_40 (by decide)).trans (am_ite _ _ trivial (by simp only [am_cond, decide_eq_true_eq]))
theorem r42_43  : am_Rn L xs d 42 43 ls st σ Q = am_la ls 0 (fun x => am_Rn L xs d 42 44 ls (x :: st) σ Q) := am_r_aload_n d42_43
theorem r42_44 {p : Nat} : am_Rn L xs d 42 44 ls (.ref p :: st) σ Q = am_fd σ p 4 4 (fun v => am_Rn L xs d 42 47 ls (v :: st) σ Q) := am_r_getfield d42_44 rfl
theorem r42_47  : am_Rn L xs d 42 47 ls st σ Q = am_li ls 6 (fun x => am_Rn L xs d 42 49 ls (.int x :: st) σ Q) := am_r_iload d42_47
theorem r42_49 {p : Nat} {i : Int32} : am_Rn L xs d 42 49 ls (.int i :: .ref p :: st) σ Q = am_ai 0 σ p i (fun x => am_Rn L xs d 42 50 ls (.int x :: st) σ Q) := am_r_iaload d42_49
theorem r42_50  : am_Rn L xs d 42 50 ls st σ Q = am_li ls 5 (fun x => am_Rn L xs d 42 52 ls (.int x :: st) σ Q) := am_r_iload d42_50
theorem r42_52 {a b : Int32} : am_Rn L xs d 42 52 ls (.int b :: .int a :: st) σ Q = if a ≤ b then am_Rn L xs d 42 80 ls st σ Q else am_Rn L xs d 42 55 ls st σ Q := (am_r_icmp (t := 80) d42_52 (by decide)).trans (am_ite _ _ trivial (by simp only [am_cond, decide_eq_true_eq]))
theorem r42_55  : am_Rn L xs d 42 55 ls st σ Q = am_la ls 0 (fun x => am_Rn L xs d 42 56 ls (x :: st) σ Q) := am_r_aload_n d42_55
theorem r42_56 {p : Nat} : am_Rn L xs d 42 56 ls (.ref p :: st) σ Q = am_fd σ p 4 2 (fun v => am_Rn L xs d 42 59 ls (v :: st) σ Q) := am_r_getfield d42_56 rfl
theorem r42_59  : am_Rn L xs d 42 59 ls st σ Q = am_la ls 0 (fun x => am_Rn L xs d 42 60 ls (x :: st) σ Q) := am_r_aload_n d42_59
theorem r42_60 {p : Nat} : am_Rn L xs d 42 60 ls (.ref p :: st) σ Q = am_fd σ p 4 3 (fun v => am_Rn L xs d 42 63 ls (v :: st) σ Q) := am_r_getfield d42_60 rfl
theorem r42_63  : am_Rn L xs d 42 63 ls st σ Q = am_li ls 6 (fun x => am_Rn L xs d 42 65 ls (.int x :: st) σ Q) := am_r_iload d42_63
theorem r42_65 {p : Nat} {i : Int32} : am_Rn L xs d 42 65 ls (.int i :: .ref p :: st) σ Q = am_ai 0 σ p i (fun x => am_Rn L xs d 42 66 ls (.int x :: st) σ Q) := am_r_iaload d42_65
theorem r42_66  : am_Rn L xs d 42 66 ls st σ Q = am_Rn L xs d 42 67 ls (.int 1 :: st) σ Q := am_r_iconst d42_66 (by decide)
theorem r42_67 {p : Nat} {i x : Int32} : am_Rn L xs d 42 67 ls (.int x :: .int i :: .ref p :: st) σ Q = am_wi 1 σ p i (vp_nar .boolean x) (fun σ1 => am_Rn L xs d 42 68 ls st σ1 Q) := am_r_bastore d42_67
theorem r42_68  : am_Rn L xs d 42 68 ls st σ Q = am_la ls 0 (fun x => am_Rn L xs d 42 69 ls (x :: st) σ Q) := am_r_aload_n d42_68
theorem r42_69 {p : Nat} : am_Rn L xs d 42 69 ls (.ref p :: st) σ Q = am_fd σ p 4 4 (fun v => am_Rn L xs d 42 72 ls (v :: st) σ Q) := am_r_getfield d42_69 rfl
theorem r42_72  : am_Rn L xs d 42 72 ls st σ Q = am_li ls 6 (fun x => am_Rn L xs d 42 74 ls (.int x :: st) σ Q) := am_r_iload d42_72
theorem r42_74 {p : Nat} {i : Int32} : am_Rn L xs d 42 74 ls (.int i :: .ref p :: st) σ Q = am_ai 0 σ p i (fun x => am_Rn L xs d 42 75 ls (.int x :: st) σ Q) := am_r_iaload d42_74
theorem r42_75 {x : Int32} : am_Rn L xs d 42 75 ls (.int x :: st) σ Q = (5 < ls.length ∧ am_Rn L xs d 42 77 (ls.set 5 (.int x)) st σ Q) := am_r_istore d42_75
theorem r42_77  : am_Rn L xs d 42 77 ls st σ Q = am_li ls 4 (fun x => am_Rn L xs d 42 80 (ls.set 4 (.int (x + (-1)))) st σ Q) := am_r_iinc d42_77 (by decide)
theorem r42_80  : am_Rn L xs d 42 80 ls st σ Q = am_li ls 6 (fun x => am_Rn L xs d 42 83 (ls.set 6 (.int (x + 1))) st σ Q) := am_r_iinc d42_80 (by decide)
theorem r42_83  : am_Rn L xs d 42 83 ls st σ Q = am_Rn L xs d 42 20 ls st σ Q := am_r_goto d42_83 (by decide)
theorem r42_86  : am_Rn L xs d 42 86 ls [] σ Q = Q none σ := am_r_return d42_86 rfl
theorem d43_0 : decode (pg_code 43) 0 = .ok (.iconst 0, 1) := by decide +kernel
theorem d43_1 : decode (pg_code 43) 1 = .ok (.istore_n 3, 1) := by decide +kernel
theorem d43_2 : decode (pg_code 43) 2 = .ok (.iconst 0, 1) := by decide +kernel
theorem d43_3 : decode (pg_code 43) 3 = .ok (.istore 4, 2) := by decide +kernel
theorem d43_5 : decode (pg_code 43) 5 = .ok (.iload 4, 2) := by decide +kernel
theorem d43_7 : decode (pg_code 43) 7 = .ok (.aload_n 0, 1) := by decide +kernel
theorem d43_8 : decode (pg_code 43) 8 = .ok (.getfield 44, 3) := by decide +kernel
theorem d43_11 : decode (pg_code 43) 11 = .ok (.getfield 72, 3) := by decide +kernel
theorem d43_14 : decode (pg_code 43) 14 = .ok (.if_icmp .ge 81, 3) := by decide +kernel
theorem d43_17 : decode (pg_code 43) 17 = .ok (.aload_n 0, 1) := by decide +kernel
theorem d43_18 : decode (pg_code 43) 18 = .ok (.getfield 12, 3) := by decide +kernel
theorem d43_21 : decode (pg_code 43) 21 = .ok (.iload 4, 2) := by decide +kernel
theorem d43_23 : decode (pg_code 43) 23 = .ok (.invokevirtual 79, 3) := by decide +kernel
theorem d43_26 : decode (pg_code 43) 26 = .ok (.istore 5, 2) := by decide +kernel
theorem d43_28 : decode (pg_code 43) 28 = .ok (.aload_n 0, 1) := by decide +kernel
theorem d43_29 : decode (pg_code 43) 29 = .ok (.getfield 44, 3) := by decide +kernel
theorem d43_32 : decode (pg_code 43) 32 = .ok (.getfield 90, 3) := by decide +kernel
theorem d43_35 : decode (pg_code 43) 35 = .ok (.iload 4, 2) := by decide +kernel
theorem d43_37 : decode (pg_code 43) 37 = .ok (.iaload, 1) := by decide +kernel
theorem d43_38 : decode (pg_code 43) 38 = .ok (.iload_n 1, 1) := by decide +kernel
theorem d43_39 : decode (pg_code 43) 39 = .ok (.if_icmp .ne 50, 3) := by decide +kernel
theorem d43_42 : decode (pg_code 43) 42 = .ok (.iload 5, 2) := by decide +kernel
theorem d43_44 : decode (pg_code 43) 44 = .ok (.iconst (-1), 1) := by decide +kernel
theorem d43_45 : decode (pg_code 43) 45 = .ok (.if_icmp .eq 44, 3) := by decide +kernel
theorem d43_48 : decode (pg_code 43) 48 = .ok (.aload_n 0, 1) := by decide +kernel
theorem d43_49 : decode (pg_code 43) 49 = .ok (.getfield 48, 3) := by decide +kernel
theorem d43_52 : decode (pg_code 43) 52 = .ok (.getfield 90, 3) := by decide +kernel
theorem d43_55 : decode (pg_code 43) 55 = .ok (.iload 5, 2) := by decide +kernel
theorem d43_57 : decode (pg_code 43) 57 = .ok (.iaload, 1) := by decide +kernel
theorem d43_58 : decode (pg_code 43) 58 = .ok (.iload_n 2, 1) := by decide +kernel
theorem d43_59 : decode (pg_code 43) 59 = .ok (.if_icmp .ne 30, 3) := by decide +kernel
theorem d43_62 : decode (pg_code 43) 62 = .ok (.aload_n 0, 1) := by decide +kernel
theorem d43_63 : decode (pg_code 43) 63 = .ok (.getfield 29, 3) := by decide +kernel
theorem d43_66 : decode (pg_code 43) 66 = .ok (.iload_n 3, 1) := by decide +kernel
theorem d43_67 : decode (pg_code 43) 67 = .ok (.iload 4, 2) := by decide +kernel
theorem d43_69 : decode (pg_code 43) 69 = .ok (.iastore, 1) := by decide +kernel
theorem d43_70 : decode (pg_code 43) 70 = .ok (.aload_n 0, 1) := by decide +kernel
theorem d43_71 : decode (pg_code 43) 71 = .ok (.getfield 33, 3) := by decide +kernel
theorem d43_74 : decode (pg_code 43) 74 = .ok (.iload_n 3, 1) := by decide +kernel
theorem d43_75 : decode (pg_code 43) 75 = .ok (.aload_n 0, 1) := by decide +kernel
theorem d43_76 : decode (pg_code 43) 76 = .ok (.getfield 48, 3) := by decide +kernel
theorem d43_79 : decode (pg_code 43) 79 = .ok (.getfield 93, 3) := by decide +kernel
theorem d43_82 : decode (pg_code 43) 82 = .ok (.iload 5, 2) := by decide +kernel
theorem d43_84 : decode (pg_code 43) 84 = .ok (.iaload, 1) := by decide +kernel
theorem d43_85 : decode (pg_code 43) 85 = .ok (.iastore, 1) := by decide +kernel
theorem d43_86 : decode (pg_code 43) 86 = .ok (.iinc 3 1, 3) := by decide +kernel
theorem d43_89 : decode (pg_code 43) 89 = .ok (.iinc 4 1, 3) := by decide +kernel
theorem d43_92 : decode (pg_code 43) 92 = .ok (.goto (-87), 3) := by decide +kernel
theorem d43_95 : decode (pg_code 43) 95 = .ok (.iload_n 3, 1) := by decide +kernel
theorem d43_96 : decode (pg_code 43) 96 = .ok (.ireturn, 1) := by decide +kernel
theorem e43 {b1 b2 b3 : Value} : am_Call L xs d 43 [b1, b2, b3] σ Q = am_Rn L xs d 43 0 [b1, b2, b3, .retAddr 0, .retAddr 0, .retAddr 0] [] σ Q := rfl
theorem r43_0  : am_Rn L xs d 43 0 ls st σ Q = am_Rn L xs d 43 1 ls (.int 0 :: st) σ Q := am_r_iconst d43_0 (by decide)
theorem r43_1 {x : Int32} : am_Rn L xs d 43 1 ls (.int x :: st) σ Q = (3 < ls.length ∧ am_Rn L xs d 43 2 (ls.set 3 (.int x)) st σ Q) := am_r_istore_n d43_1
theorem r43_2  : am_Rn L xs d 43 2 ls st σ Q = am_Rn L xs d 43 3 ls (.int 0 :: st) σ Q := am_r_iconst d43_2 (by decide)
theorem r43_3 {x : Int32} : am_Rn L xs d 43 3 ls (.int x :: st) σ Q = (4 < ls.length ∧ am_Rn L xs d 43 5 (ls.set 4 (.int x)) st σ Q) := am_r_istore d43_3
theorem r43_5  : am_Rn L xs d 43 5 ls st σ Q = am_li ls 4 (fun x => am_Rn L xs d 43 7 ls (.int x :: st) σ Q) := am_r_iload d43_5
theorem r43_7  : am_Rn L xs d 43 7 ls st σ Q = am_la ls 0 (fun x => am_Rn L xs d 43 8 ls (x :: st) σ Q) := am_r_aload_n d43_7
theorem r43_8 {p : Nat} : am_Rn L xs d 43 8 ls (.ref p :: st) σ Q = am_fd σ p 4 6 (fun v => am_Rn L xs d 43 11 ls (v :: st) σ Q) := am_r_getfield d43_8 rfl
theorem r43_11 {p : Nat} : am_Rn L xs d 43 11 ls (.ref p :: st) σ Q = am_fd σ p 1 4 (fun v => am_Rn L xs d 43 14 ls (v :: st) σ Q) := am_r_getfield d43_11 rfl
theorem r43_14 {a b : Int32} : am_Rn L xs d 43 14 ls (.int b :: .int a :: st) σ Q = if b ≤ a then am_Rn L xs d 43 95 ls st σ Q else am_Rn L xs d 43 17 ls st σ Q := (am_r_icmp (t := 95) d43_14 (by decide)).trans (am_ite _ _ trivial (by simp only [am_cond, decide_eq_true_eq]))
theorem r43_17  : am_Rn L xs d 43 17 ls st σ Q = am_la ls 0 (fun x => am_Rn L xs d 43 18 ls (x :: st) σ Q) := am_r_aload_n d43_17
theorem r43_18 {p : Nat} : am_Rn L xs d 43 18 ls (.ref p :: st) σ Q = am_fd σ p 4 0 (fun v => am_Rn L xs d 43 21 ls (v :: st) σ Q) := am_r_getfield d43_18 rfl
theorem r43_21  : am_Rn L xs d 43 21 ls st σ Q = am_li ls 4 (fun x => am_Rn L xs d 43 23 ls (.int x :: st) σ Q) := am_r_iload d43_21
theorem r43_23 {a1 : Value} {p : Nat} : am_Rn L xs (d + 1) 43 23 ls (a1 :: .ref p :: st) σ Q = ((am_oc σ p = 3 ∧ st.length ≤ 4 ∧ am_ok a1 = true) ∧ am_Call L xs d 44 [.ref p, a1] σ (fun r σ1 => am_Rn L xs (d + 1) 43 26 ls (r.toList ++ st) σ1 Q)) := am_R_virtual1 d43_23 rfl ⟨by decide, rfl⟩ rfl rfl (by decide)
theorem r43_26 {x : Int32} : am_Rn L xs d 43 26 ls (.int x :: st) σ Q = (5 < ls.length ∧ am_Rn L xs d 43 28 (ls.set 5 (.int x)) st σ Q) := am_r_istore d43_26
theorem r43_28  : am_Rn L xs d 43 28 ls st σ Q = am_la ls 0 (fun x => am_Rn L xs d 43 29 ls (x :: st) σ Q) := am_r_aload_n d43_28
theorem r43_29 {p : Nat} : am_Rn L xs d 43 29 ls (.ref p :: st) σ Q = am_fd σ p 4 6 (fun v => am_Rn L xs d 43 32 ls (v :: st) σ Q) := am_r_getfield d43_29 rfl
theorem r43_32 {p : Nat} : am_Rn L xs d 43 32 ls (.ref p :: st) σ Q = am_fd σ p 1 0 (fun v => am_Rn L xs d 43 35 ls (v :: st) σ Q) := am_r_getfield d43_32 rfl
theorem r43_35  : am_Rn L xs d 43 35 ls st σ Q = am_li ls 4 (fun x => am_Rn L xs d 43 37 ls (.int x :: st) σ Q) := am_r_iload d43_35
theorem r43_37 {p : Nat} {i : Int32} : am_Rn L xs d 43 37 ls (.int i :: .ref p :: st) σ Q = am_ai 0 σ p i (fun x => am_Rn L xs d 43 38 ls (.int x :: st) σ Q) := am_r_iaload d43_37
theorem r43_38  : am_Rn L xs d 43 38 ls st σ Q = am_li ls 1 (fun x => am_Rn L xs d 43 39 ls (.int x :: st) σ Q) := am_r_iload_n d43_38
theorem r43_39 {a b : Int32} : am_Rn L xs d 43 39 ls (.int b :: .int a :: st) σ Q = if ¬ a = b then am_Rn L xs d 43 89 ls st σ Q else am_Rn L xs d 43 42 ls st σ Q := (am_r_icmp (t := 89) d43_39 (by decide)).trans (am_ite _ _ trivial (by simp only [am_cond, decide_eq_true_eq]))
theorem r43_42  : am_Rn L xs d 43 42 ls st σ Q = am_li ls 5 (fun x => am_Rn L xs d 43 44 ls (.int x :: st) σ Q) := am_r_iload d43_42
theorem r43_44  : am_Rn L xs d 43 44 ls st σ Q = am_Rn L xs d 43 45 ls (.int (-1) :: st) σ Q := am_r_iconst d43_44 (by decide)
theorem r43_45 {a b : Int32} : am_Rn L xs d 43 45 ls (.int b :: .int a :: st) σ Q = if a = b then am_Rn L xs d 43 89 ls st σ Q else am_Rn L xs d 43 48 ls st σ Q := (am_r_icmp (t := 89) d43_45 (by decide)).trans (am_ite _ _ trivial (by simp only [am_cond, decide_eq_true_eq]))
theorem r43_48  : am_Rn L xs d 43 48 ls st σ Q = am_la ls 0 (fun x => am_Rn L xs d 43 49 ls (x :: st) σ Q) := am_r_aload_n d43_48
theorem r43_49 {p : Nat} : am_Rn L xs d 43 49 ls (.ref p :: st) σ Q = am_fd σ p 4 7 (fun v => am_Rn L xs d 43 52 ls (v :: st) σ Q) := am_r_getfield d43_49 rfl
theorem r43_52 {p : Nat} : am_Rn L xs d 43 52 ls (.ref p :: st) σ Q = am_fd σ p 1 0 (fun v => am_Rn L xs d 43 55 ls (v :: st) σ Q) := am_r_getfield d43_52 rfl
theorem r43_55  : am_Rn L xs d 43 55 ls st σ Q = am_li ls 5 (fun x => am_Rn L xs d 43 57 ls (.int x :: st) σ Q) := am_r_iload d43_55
theorem r43_57 {p : Nat} {i : Int32} : am_Rn L xs d 43 57 ls (.int i :: .ref p :: st) σ Q = am_ai 0 σ p i (fun x => am_Rn L xs d 43 58 ls (.int x :: st) σ Q) := am_r_iaload d43_57
theorem r43_58  : am_Rn L xs d 43 58 ls st σ Q = am_li ls 2 (fun x => am_Rn L xs d 43 59 ls (.int x :: st) σ Q) := am_r_iload_n d43_58
theorem r43_59 {a b : Int32} : am_Rn L xs d 43 59 ls (.int b :: .int a :: st) σ Q = if ¬ a = b then am_Rn L xs d 43 89 ls st σ Q else am_Rn L xs d 43 62 ls st σ Q := (am_r_icmp (t := 89) d43_59 (by decide)).trans (am_ite _ _ trivial (by simp only [am_cond, decide_eq_true_eq]))
theorem r43_62  : am_Rn L xs d 43 62 ls st σ Q = am_la ls 0 (fun x => am_Rn L xs d 43 63 ls (x :: st) σ Q) := am_r_aload_n d43_62
theorem r43_63 {p : Nat} : am_Rn L xs d 43 63 ls (.ref p :: st) σ Q = am_fd σ p 4 3 (fun v => am_Rn L xs d 43 66 ls (v :: st) σ Q) := am_r_getfield d43_63 rfl
theorem r43_66  : am_Rn L xs d 43 66 ls st σ Q = am_li ls 3 (fun x => am_Rn L xs d 43 67 ls (.int x :: st) σ Q) := am_r_iload_n d43_66
theorem r43_67  : am_Rn L xs d 43 67 ls st σ Q = am_li ls 4 (fun x => am_Rn L xs d 43 69 ls (.int x :: st) σ Q) := am_r_iload d43_67
theorem r43_69 {p : Nat} {i x : Int32} : am_Rn L xs d 43 69 ls (.int x :: .int i :: .ref p :: st) σ Q = am_wi 0 σ p i x (fun σ1 => am_Rn L xs d 43 70 ls st σ1 Q) := am_r_iastore d43_69
theorem r43_70  : am_Rn L xs d 43 70 ls st σ Q = am_la ls 0 (fun x => am_Rn L xs d 43 71 ls (x :: st) σ Q) := am_r_aload_n d43_70
theorem r43_71 {p : Nat} : am_Rn L xs d 43 71 ls (.ref p :: st) σ Q = am_fd σ p 4 4 (fun v => am_Rn L xs d 43 74 ls (v :: st) σ Q) := am_r_getfield d43_71 rfl
theorem r43_74  : am_Rn L xs d 43 74 ls st σ Q = am_li ls 3 (fun x => am_Rn L xs d 43 75 ls (.int x :: st) σ Q) := am_r_iload_n d43_74
theorem r43_75  : am_Rn L xs d 43 75 ls st σ Q = am_la ls 0 (fun x => am_Rn L xs d 43 76 ls (x :: st) σ Q) := am_r_aload_n d43_75
theorem r43_76 {p : Nat} : am_Rn L xs d 43 76 ls (.ref p :: st) σ Q = am_fd σ p 4 7 (fun v => am_Rn L xs d 43 79 ls (v :: st) σ Q) := am_r_getfield d43_76 rfl
theorem r43_79 {p : Nat} : am_Rn L xs d 43 79 ls (.ref p :: st) σ Q = am_fd σ p 1 1 (fun v => am_Rn L xs d 43 82 ls (v :: st) σ Q) := am_r_getfield d43_79 rfl
theorem r43_82  : am_Rn L xs d 43 82 ls st σ Q = am_li ls 5 (fun x => am_Rn L xs d 43 84 ls (.int x :: st) σ Q) := am_r_iload d43_82
theorem r43_84 {p : Nat} {i : Int32} : am_Rn L xs d 43 84 ls (.int i :: .ref p :: st) σ Q = am_ai 0 σ p i (fun x => am_Rn L xs d 43 85 ls (.int x :: st) σ Q) := am_r_iaload d43_84
theorem r43_85 {p : Nat} {i x : Int32} : am_Rn L xs d 43 85 ls (.int x :: .int i :: .ref p :: st) σ Q = am_wi 0 σ p i x (fun σ1 => am_Rn L xs d 43 86 ls st σ1 Q) := am_r_iastore d43_85
theorem r43_86  : am_Rn L xs d 43 86 ls st σ Q = am_li ls 3 (fun x => am_Rn L xs d 43 89 (ls.set 3 (.int (x + 1))) st σ Q) := am_r_iinc d43_86 (by decide)
theorem r43_89  : am_Rn L xs d 43 89 ls st σ Q = am_li ls 4 (fun x => am_Rn L xs d 43 92 (ls.set 4 (.int (x + 1))) st σ Q) := am_r_iinc d43_89 (by decide)
theorem r43_92  : am_Rn L xs d 43 92 ls st σ Q = am_Rn L xs d 43 5 ls st σ Q := am_r_goto d43_92 (by decide)
theorem r43_95  : am_Rn L xs d 43 95 ls st σ Q = am_li ls 3 (fun x => am_Rn L xs d 43 96 ls (.int x :: st) σ Q) := am_r_iload_n d43_95
theorem r43_96 {v : Int32} : am_Rn L xs d 43 96 ls [.int v] σ Q = Q (some (.int v)) σ := am_r_ireturn d43_96 rfl
theorem d45_0 : decode (pg_code 45) 0 = .ok (.iconst 0, 1) := by decide +kernel
theorem d45_1 : decode (pg_code 45) 1 = .ok (.istore_n 2, 1) := by decide +kernel
theorem d45_2 : decode (pg_code 45) 2 = .ok (.iload_n 1, 1) := by decide +kernel
theorem d45_3 : decode (pg_code 45) 3 = .ok (.iconst 1, 1) := by decide +kernel
theorem d45_4 : decode (pg_code 45) 4 = .ok (.isub, 1) := by decide +kernel
theorem d45_5 : decode (pg_code 45) 5 = .ok (.istore_n 3, 1) := by decide +kernel
theorem d45_6 : decode (pg_code 45) 6 = .ok (.iload_n 3, 1) := by decide +kernel
theorem d45_7 : decode (pg_code 45) 7 = .ok (.ifCond .lt 84, 3) := by decide +kernel
theorem d45_10 : decode (pg_code 45) 10 = .ok (.aload_n 0, 1) := by decide +kernel
theorem d45_11 : decode (pg_code 45) 11 = .ok (.getfield 36, 3) := by decide +kernel
theorem d45_14 : decode (pg_code 45) 14 = .ok (.iload_n 3, 1) := by decide +kernel
theorem d45_15 : decode (pg_code 45) 15 = .ok (.iconst 1, 1) := by decide +kernel
theorem d45_16 : decode (pg_code 45) 16 = .ok (.iastore, 1) := by decide +kernel
theorem d45_17 : decode (pg_code 45) 17 = .ok (.iload_n 3, 1) := by decide +kernel
theorem d45_18 : decode (pg_code 45) 18 = .ok (.iconst 1, 1) := by decide +kernel
theorem d45_19 : decode (pg_code 45) 19 = .ok (.iadd, 1) := by decide +kernel
theorem d45_20 : decode (pg_code 45) 20 = .ok (.istore 4, 2) := by decide +kernel
theorem d45_22 : decode (pg_code 45) 22 = .ok (.iload 4, 2) := by decide +kernel
theorem d45_24 : decode (pg_code 45) 24 = .ok (.iload_n 1, 1) := by decide +kernel
theorem d45_25 : decode (pg_code 45) 25 = .ok (.if_icmp .ge 49, 3) := by decide +kernel
theorem d45_28 : decode (pg_code 45) 28 = .ok (.aload_n 0, 1) := by decide +kernel
theorem d45_29 : decode (pg_code 45) 29 = .ok (.getfield 33, 3) := by decide +kernel
theorem d45_32 : decode (pg_code 45) 32 = .ok (.iload_n 3, 1) := by decide +kernel
theorem d45_33 : decode (pg_code 45) 33 = .ok (.iaload, 1) := by decide +kernel
theorem d45_34 : decode (pg_code 45) 34 = .ok (.aload_n 0, 1) := by decide +kernel
theorem d45_35 : decode (pg_code 45) 35 = .ok (.getfield 33, 3) := by decide +kernel
theorem d45_38 : decode (pg_code 45) 38 = .ok (.iload 4, 2) := by decide +kernel
theorem d45_40 : decode (pg_code 45) 40 = .ok (.iaload, 1) := by decide +kernel
theorem d45_41 : decode (pg_code 45) 41 = .ok (.if_icmp .ge 27, 3) := by decide +kernel
theorem d45_44 : decode (pg_code 45) 44 = .ok (.aload_n 0, 1) := by decide +kernel
theorem d45_45 : decode (pg_code 45) 45 = .ok (.getfield 36, 3) := by decide +kernel
theorem d45_48 : decode (pg_code 45) 48 = .ok (.iload_n 3, 1) := by decide +kernel
theorem d45_49 : decode (pg_code 45) 49 = .ok (.aload_n 0, 1) := by decide +kernel
theorem d45_50 : decode (pg_code 45) 50 = .ok (.getfield 36, 3) := by decide +kernel
theorem d45_53 : decode (pg_code 45) 53 = .ok (.iload_n 3, 1) := by decide +kernel
theorem d45_54 : decode (pg_code 45) 54 = .ok (.iaload, 1) := by decide +kernel
theorem d45_55 : decode (pg_code 45) 55 = .ok (.aload_n 0, 1) := by decide +kernel
theorem d45_56 : decode (pg_code 45) 56 = .ok (.getfield 36, 3) := by decide +kernel
theorem d45_59 : decode (pg_code 45) 59 = .ok (.iload 4, 2) := by decide +kernel
theorem d45_61 : decode (pg_code 45) 61 = .ok (.iaload, 1) := by decide +kernel
theorem d45_62 : decode (pg_code 45) 62 = .ok (.iconst 1, 1) := by decide +kernel
theorem d45_63 : decode (pg_code 45) 63 = .ok (.iadd, 1) := by decide +kernel
theorem d45_64 : decode (pg_code 45) 64 = .ok (.invokestatic 96, 3) := by decide +kernel
theorem d45_67 : decode (pg_code 45) 67 = .ok (.iastore, 1) := by decide +kernel
theorem d45_68 : decode (pg_code 45) 68 = .ok (.iinc 4 1, 3) := by decide +kernel
theorem d45_71 : decode (pg_code 45) 71 = .ok (.goto (-49), 3) := by decide +kernel
theorem d45_74 : decode (pg_code 45) 74 = .ok (.iload_n 2, 1) := by decide +kernel
theorem d45_75 : decode (pg_code 45) 75 = .ok (.aload_n 0, 1) := by decide +kernel
theorem d45_76 : decode (pg_code 45) 76 = .ok (.getfield 36, 3) := by decide +kernel
theorem d45_79 : decode (pg_code 45) 79 = .ok (.iload_n 3, 1) := by decide +kernel
theorem d45_80 : decode (pg_code 45) 80 = .ok (.iaload, 1) := by decide +kernel
theorem d45_81 : decode (pg_code 45) 81 = .ok (.invokestatic 96, 3) := by decide +kernel
theorem d45_84 : decode (pg_code 45) 84 = .ok (.istore_n 2, 1) := by decide +kernel
theorem d45_85 : decode (pg_code 45) 85 = .ok (.iinc 3 (-1), 3) := by decide +kernel
theorem d45_88 : decode (pg_code 45) 88 = .ok (.goto (-82), 3) := by decide +kernel
theorem d45_91 : decode (pg_code 45) 91 = .ok (.iload_n 2, 1) := by decide +kernel
theorem d45_92 : decode (pg_code 45) 92 = .ok (.ireturn, 1) := by decide +kernel
theorem e45 {b1 b2 : Value} : am_Call L xs d 45 [b1, b2] σ Q = am_Rn L xs d 45 0 [b1, b2, .retAddr 0, .retAddr 0, .retAddr 0] [] σ Q := rfl
theorem r45_0  : am_Rn L xs d 45 0 ls st σ Q = am_Rn L xs d 45 1 ls (.int 0 :: st) σ Q := am_r_iconst d45_0 (by decide)
theorem r45_1 {x : Int32} : am_Rn L xs d 45 1 ls (.int x :: st) σ Q = (2 < ls.length ∧ am_Rn L xs d 45 2 (ls.set 2 (.int x)) st σ Q) := am_r_istore_n d45_1
theorem r45_2  : am_Rn L xs d 45 2 ls st σ Q = am_li ls 1 (fun x => am_Rn L xs d 45 3 ls (.int x :: st) σ Q) := am_r_iload_n d45_2
theorem r45_3  : am_Rn L xs d 45 3 ls st σ Q = am_Rn L xs d 45 4 ls (.int 1 :: st) σ Q := am_r_iconst d45_3 (by decide)
theorem r45_4 {a b : Int32} : am_Rn L xs d 45 4 ls (.int b :: .int a :: st) σ Q = am_Rn L xs d 45 5 ls (.int (a - b) :: st) σ Q := am_r_isub d45_4
theorem r45_5 {x : Int32} : am_Rn L xs d 45 5 ls (.int x :: st) σ Q = (3 < ls.length ∧ am_Rn L xs d 45 6 (ls.set 3 (.int x)) st σ Q) := am_r_istore_n d45_5
theorem r45_6  : am_Rn L xs d 45 6 ls st σ Q = am_li ls 3 (fun x => am_Rn L xs d 45 7 ls (.int x :: st) σ Q) := am_r_iload_n d45_6
theorem r45_7 {a : Int32} : am_Rn L xs d 45 7 ls (.int a :: st) σ Q = if a < 0 then am_Rn L xs d 45 91 ls st σ Q else am_Rn L xs d 45 10 ls st σ Q := (am_r_if (t := 91) d45_7 (by decide)).trans (am_ite _ _ trivial (by simp only [am_cond, decide_eq_true_eq]))
theorem r45_10  : am_Rn L xs d 45 10 ls st σ Q = am_la ls 0 (fun x => am_Rn L xs d 45 11 ls (x :: st) σ Q) := am_r_aload_n d45_10
theorem r45_11 {p : Nat} : am_Rn L xs d 45 11 ls (.ref p :: st) σ Q = am_fd σ p 4 5 (fun v => am_Rn L xs d 45 14 ls (v :: st) σ Q) := am_r_getfield d45_11 rfl
theorem r45_14  : am_Rn L xs d 45 14 ls st σ Q = am_li ls 3 (fun x => am_Rn L xs d 45 15 ls (.int x :: st) σ Q) := am_r_iload_n d45_14
theorem r45_15  : am_Rn L xs d 45 15 ls st σ Q = am_Rn L xs d 45 16 ls (.int 1 :: st) σ Q := am_r_iconst d45_15 (by decide)
theorem r45_16 {p : Nat} {i x : Int32} : am_Rn L xs d 45 16 ls (.int x :: .int i :: .ref p :: st) σ Q = am_wi 0 σ p i x (fun σ1 => am_Rn L xs d 45 17 ls st σ1 Q) := am_r_iastore d45_16
theorem r45_17  : am_Rn L xs d 45 17 ls st σ Q = am_li ls 3 (fun x => am_Rn L xs d 45 18 ls (.int x :: st) σ Q) := am_r_iload_n d45_17
theorem r45_18  : am_Rn L xs d 45 18 ls st σ Q = am_Rn L xs d 45 19 ls (.int 1 :: st) σ Q := am_r_iconst d45_18 (by decide)
theorem r45_19 {a b : Int32} : am_Rn L xs d 45 19 ls (.int b :: .int a :: st) σ Q = am_Rn L xs d 45 20 ls (.int (a + b) :: st) σ Q := am_r_iadd d45_19
theorem r45_20 {x : Int32} : am_Rn L xs d 45 20 ls (.int x :: st) σ Q = (4 < ls.length ∧ am_Rn L xs d 45 22 (ls.set 4 (.int x)) st σ Q) := am_r_istore d45_20
theorem r45_22  : am_Rn L xs d 45 22 ls st σ Q = am_li ls 4 (fun x => am_Rn L xs d 45 24 ls (.int x :: st) σ Q) := am_r_iload d45_22
theorem r45_24  : am_Rn L xs d 45 24 ls st σ Q = am_li ls 1 (fun x => am_Rn L xs d 45 25 ls (.int x :: st) σ Q) := am_r_iload_n d45_24
theorem r45_25 {a b : Int32} : am_Rn L xs d 45 25 ls (.int b :: .int a :: st) σ Q = if b ≤ a then am_Rn L xs d 45 74 ls st σ Q else am_Rn L xs d 45 28 ls st σ Q := (am_r_icmp (t := 74) d45_25 (by decide)).trans (am_ite _ _ trivial (by simp only [am_cond, decide_eq_true_eq]))
theorem r45_28  : am_Rn L xs d 45 28 ls st σ Q = am_la ls 0 (fun x => am_Rn L xs d 45 29 ls (x :: st) σ Q) := am_r_aload_n d45_28
theorem r45_29 {p : Nat} : am_Rn L xs d 45 29 ls (.ref p :: st) σ Q = am_fd σ p 4 4 (fun v => am_Rn L xs d 45 32 ls (v :: st) σ Q) := am_r_getfield d45_29 rfl
theorem r45_32  : am_Rn L xs d 45 32 ls st σ Q = am_li ls 3 (fun x => am_Rn L xs d 45 33 ls (.int x :: st) σ Q) := am_r_iload_n d45_32
theorem r45_33 {p : Nat} {i : Int32} : am_Rn L xs d 45 33 ls (.int i :: .ref p :: st) σ Q = am_ai 0 σ p i (fun x => am_Rn L xs d 45 34 ls (.int x :: st) σ Q) := am_r_iaload d45_33
theorem r45_34  : am_Rn L xs d 45 34 ls st σ Q = am_la ls 0 (fun x => am_Rn L xs d 45 35 ls (x :: st) σ Q) := am_r_aload_n d45_34
theorem r45_35 {p : Nat} : am_Rn L xs d 45 35 ls (.ref p :: st) σ Q = am_fd σ p 4 4 (fun v => am_Rn L xs d 45 38 ls (v :: st) σ Q) := am_r_getfield d45_35 rfl
theorem r45_38  : am_Rn L xs d 45 38 ls st σ Q = am_li ls 4 (fun x => am_Rn L xs d 45 40 ls (.int x :: st) σ Q) := am_r_iload d45_38
theorem r45_40 {p : Nat} {i : Int32} : am_Rn L xs d 45 40 ls (.int i :: .ref p :: st) σ Q = am_ai 0 σ p i (fun x => am_Rn L xs d 45 41 ls (.int x :: st) σ Q) := am_r_iaload d45_40
theorem r45_41 {a b : Int32} : am_Rn L xs d 45 41 ls (.int b :: .int a :: st) σ Q = if b ≤ a then am_Rn L xs d 45 68 ls st σ Q else am_Rn L xs d 45 44 ls st σ Q := (am_r_icmp (t := 68) d45_41 (by decide)).trans (am_ite _ _ trivial (by simp only [am_cond, decide_eq_true_eq]))
theorem r45_44  : am_Rn L xs d 45 44 ls st σ Q = am_la ls 0 (fun x => am_Rn L xs d 45 45 ls (x :: st) σ Q) := am_r_aload_n d45_44
theorem r45_45 {p : Nat} : am_Rn L xs d 45 45 ls (.ref p :: st) σ Q = am_fd σ p 4 5 (fun v => am_Rn L xs d 45 48 ls (v :: st) σ Q) := am_r_getfield d45_45 rfl
theorem r45_48  : am_Rn L xs d 45 48 ls st σ Q = am_li ls 3 (fun x => am_Rn L xs d 45 49 ls (.int x :: st) σ Q) := am_r_iload_n d45_48
theorem r45_49  : am_Rn L xs d 45 49 ls st σ Q = am_la ls 0 (fun x => am_Rn L xs d 45 50 ls (x :: st) σ Q) := am_r_aload_n d45_49
theorem r45_50 {p : Nat} : am_Rn L xs d 45 50 ls (.ref p :: st) σ Q = am_fd σ p 4 5 (fun v => am_Rn L xs d 45 53 ls (v :: st) σ Q) := am_r_getfield d45_50 rfl
theorem r45_53  : am_Rn L xs d 45 53 ls st σ Q = am_li ls 3 (fun x => am_Rn L xs d 45 54 ls (.int x :: st) σ Q) := am_r_iload_n d45_53
theorem r45_54 {p : Nat} {i : Int32} : am_Rn L xs d 45 54 ls (.int i :: .ref p :: st) σ Q = am_ai 0 σ p i (fun x => am_Rn L xs d 45 55 ls (.int x :: st) σ Q) := am_r_iaload d45_54
theorem r45_55  : am_Rn L xs d 45 55 ls st σ Q = am_la ls 0 (fun x => am_Rn L xs d 45 56 ls (x :: st) σ Q) := am_r_aload_n d45_55
theorem r45_56 {p : Nat} : am_Rn L xs d 45 56 ls (.ref p :: st) σ Q = am_fd σ p 4 5 (fun v => am_Rn L xs d 45 59 ls (v :: st) σ Q) := am_r_getfield d45_56 rfl
theorem r45_59  : am_Rn L xs d 45 59 ls st σ Q = am_li ls 4 (fun x => am_Rn L xs d 45 61 ls (.int x :: st) σ Q) := am_r_iload d45_59
theorem r45_61 {p : Nat} {i : Int32} : am_Rn L xs d 45 61 ls (.int i :: .ref p :: st) σ Q = am_ai 0 σ p i (fun x => am_Rn L xs d 45 62 ls (.int x :: st) σ Q) := am_r_iaload d45_61
theorem r45_62  : am_Rn L xs d 45 62 ls st σ Q = am_Rn L xs d 45 63 ls (.int 1 :: st) σ Q := am_r_iconst d45_62 (by decide)
theorem r45_63 {a b : Int32} : am_Rn L xs d 45 63 ls (.int b :: .int a :: st) σ Q = am_Rn L xs d 45 64 ls (.int (a + b) :: st) σ Q := am_r_iadd d45_63
theorem r45_64 {a b : Int32} (hr : st.length ≤ 8) : am_Rn L xs (d + 1) 45 64 ls (.int b :: .int a :: st) σ Q = am_Rn L xs (d + 1) 45 67 ls (.int (if a < b then b else a) :: st) σ Q := am_r_sp d45_64 (Or.inr ⟨rfl, by decide⟩) rfl (by decide) (if_pos hr)
theorem r45_67 {p : Nat} {i x : Int32} : am_Rn L xs d 45 67 ls (.int x :: .int i :: .ref p :: st) σ Q = am_wi 0 σ p i x (fun σ1 => am_Rn L xs d 45 68 ls st σ1 Q) := am_r_iastore d45_67
theorem r45_68  : am_Rn L xs d 45 68 ls st σ Q = am_li ls 4 (fun x => am_Rn L xs d 45 71 (ls.set 4 (.int (x + 1))) st σ Q) := am_r_iinc d45_68 (by decide)
theorem r45_71  : am_Rn L xs d 45 71 ls st σ Q = am_Rn L xs d 45 22 ls st σ Q := am_r_goto d45_71 (by decide)
theorem r45_74  : am_Rn L xs d 45 74 ls st σ Q = am_li ls 2 (fun x => am_Rn L xs d 45 75 ls (.int x :: st) σ Q) := am_r_iload_n d45_74
theorem r45_75  : am_Rn L xs d 45 75 ls st σ Q = am_la ls 0 (fun x => am_Rn L xs d 45 76 ls (x :: st) σ Q) := am_r_aload_n d45_75
theorem r45_76 {p : Nat} : am_Rn L xs d 45 76 ls (.ref p :: st) σ Q = am_fd σ p 4 5 (fun v => am_Rn L xs d 45 79 ls (v :: st) σ Q) := am_r_getfield d45_76 rfl
theorem r45_79  : am_Rn L xs d 45 79 ls st σ Q = am_li ls 3 (fun x => am_Rn L xs d 45 80 ls (.int x :: st) σ Q) := am_r_iload_n d45_79
theorem r45_80 {p : Nat} {i : Int32} : am_Rn L xs d 45 80 ls (.int i :: .ref p :: st) σ Q = am_ai 0 σ p i (fun x => am_Rn L xs d 45 81 ls (.int x :: st) σ Q) := am_r_iaload d45_80
theorem r45_81 {a b : Int32} (hr : st.length ≤ 8) : am_Rn L xs (d + 1) 45 81 ls (.int b :: .int a :: st) σ Q = am_Rn L xs (d + 1) 45 84 ls (.int (if a < b then b else a) :: st) σ Q := am_r_sp d45_81 (Or.inr ⟨rfl, by decide⟩) rfl (by decide) (if_pos hr)
theorem r45_84 {x : Int32} : am_Rn L xs d 45 84 ls (.int x :: st) σ Q = (2 < ls.length ∧ am_Rn L xs d 45 85 (ls.set 2 (.int x)) st σ Q) := am_r_istore_n d45_84
theorem r45_85  : am_Rn L xs d 45 85 ls st σ Q = am_li ls 3 (fun x => am_Rn L xs d 45 88 (ls.set 3 (.int (x + (-1)))) st σ Q) := am_r_iinc d45_85 (by decide)
theorem r45_88  : am_Rn L xs d 45 88 ls st σ Q = am_Rn L xs d 45 6 ls st σ Q := am_r_goto d45_88 (by decide)
theorem r45_91  : am_Rn L xs d 45 91 ls st σ Q = am_li ls 2 (fun x => am_Rn L xs d 45 92 ls (.int x :: st) σ Q) := am_r_iload_n d45_91
theorem r45_92 {v : Int32} : am_Rn L xs d 45 92 ls [.int v] σ Q = Q (some (.int v)) σ := am_r_ireturn d45_92 rfl
theorem d47_0 : decode (pg_code 47) 0 = .ok (.iload 4, 2) := by decide +kernel
theorem d47_2 : decode (pg_code 47) 2 = .ok (.bipush 40, 2) := by decide +kernel
theorem d47_4 : decode (pg_code 47) 4 = .ok (.if_icmp .le 5, 3) := by decide +kernel
theorem d47_7 : decode (pg_code 47) 7 = .ok (.iconst (-1), 1) := by decide +kernel
theorem d47_8 : decode (pg_code 47) 8 = .ok (.ireturn, 1) := by decide +kernel
theorem d47_9 : decode (pg_code 47) 9 = .ok (.aload_n 0, 1) := by decide +kernel
theorem d47_10 : decode (pg_code 47) 10 = .ok (.iload_n 1, 1) := by decide +kernel
theorem d47_11 : decode (pg_code 47) 11 = .ok (.iload_n 2, 1) := by decide +kernel
theorem d47_12 : decode (pg_code 47) 12 = .ok (.iload_n 3, 1) := by decide +kernel
theorem d47_13 : decode (pg_code 47) 13 = .ok (.invokevirtual 101, 3) := by decide +kernel
theorem d47_16 : decode (pg_code 47) 16 = .ok (.istore 5, 2) := by decide +kernel
theorem d47_18 : decode (pg_code 47) 18 = .ok (.iconst (-1), 1) := by decide +kernel
theorem d47_19 : decode (pg_code 47) 19 = .ok (.istore 6, 2) := by decide +kernel
theorem d47_21 : decode (pg_code 47) 21 = .ok (.iload_n 1, 1) := by decide +kernel
theorem d47_22 : decode (pg_code 47) 22 = .ok (.iconst 1, 1) := by decide +kernel
theorem d47_23 : decode (pg_code 47) 23 = .ok (.iadd, 1) := by decide +kernel
theorem d47_24 : decode (pg_code 47) 24 = .ok (.istore 7, 2) := by decide +kernel
theorem d47_26 : decode (pg_code 47) 26 = .ok (.iload 7, 2) := by decide +kernel
theorem d47_28 : decode (pg_code 47) 28 = .ok (.aload_n 0, 1) := by decide +kernel
theorem d47_29 : decode (pg_code 47) 29 = .ok (.getfield 48, 3) := by decide +kernel
theorem d47_32 : decode (pg_code 47) 32 = .ok (.getfield 72, 3) := by decide +kernel
theorem d47_35 : decode (pg_code 47) 35 = .ok (.if_icmp .ge 39, 3) := by decide +kernel
theorem d47_38 : decode (pg_code 47) 38 = .ok (.aload_n 0, 1) := by decide +kernel
theorem d47_39 : decode (pg_code 47) 39 = .ok (.getfield 48, 3) := by decide +kernel
theorem d47_42 : decode (pg_code 47) 42 = .ok (.getfield 90, 3) := by decide +kernel
theorem d47_45 : decode (pg_code 47) 45 = .ok (.iload 7, 2) := by decide +kernel
theorem d47_47 : decode (pg_code 47) 47 = .ok (.iaload, 1) := by decide +kernel
theorem d47_48 : decode (pg_code 47) 48 = .ok (.iload_n 1, 1) := by decide +kernel
theorem d47_49 : decode (pg_code 47) 49 = .ok (.if_icmp .ne 19, 3) := by decide +kernel
theorem d47_52 : decode (pg_code 47) 52 = .ok (.aload_n 0, 1) := by decide +kernel
theorem d47_53 : decode (pg_code 47) 53 = .ok (.iload 7, 2) := by decide +kernel
theorem d47_55 : decode (pg_code 47) 55 = .ok (.iload 5, 2) := by decide +kernel
theorem d47_57 : decode (pg_code 47) 57 = .ok (.iload 6, 2) := by decide +kernel
theorem d47_59 : decode (pg_code 47) 59 = .ok (.iload 4, 2) := by decide +kernel
theorem d47_61 : decode (pg_code 47) 61 = .ok (.iconst 1, 1) := by decide +kernel
theorem d47_62 : decode (pg_code 47) 62 = .ok (.iadd, 1) := by decide +kernel
theorem d47_63 : decode (pg_code 47) 63 = .ok (.invokevirtual 65, 3) := by decide +kernel
theorem d47_66 : decode (pg_code 47) 66 = .ok (.istore 6, 2) := by decide +kernel
theorem d47_68 : decode (pg_code 47) 68 = .ok (.iinc 7 1, 3) := by decide +kernel
theorem d47_71 : decode (pg_code 47) 71 = .ok (.goto (-45), 3) := by decide +kernel
theorem d47_74 : decode (pg_code 47) 74 = .ok (.iload 5, 2) := by decide +kernel
theorem d47_76 : decode (pg_code 47) 76 = .ok (.ireturn, 1) := by decide +kernel
theorem e47 {b1 b2 b3 b4 b5 : Value} : am_Call L xs d 47 [b1, b2, b3, b4, b5] σ Q = am_Rn L xs d 47 0 [b1, b2, b3, b4, b5, .retAddr 0, .retAddr 0, .retAddr 0] [] σ Q := rfl
theorem r47_0  : am_Rn L xs d 47 0 ls st σ Q = am_li ls 4 (fun x => am_Rn L xs d 47 2 ls (.int x :: st) σ Q) := am_r_iload d47_0
theorem r47_2  : am_Rn L xs d 47 2 ls st σ Q = am_Rn L xs d 47 4 ls (.int 40 :: st) σ Q := am_r_bipush d47_2 (by decide)
theorem r47_4 {a b : Int32} : am_Rn L xs d 47 4 ls (.int b :: .int a :: st) σ Q = if a ≤ b then am_Rn L xs d 47 9 ls st σ Q else am_Rn L xs d 47 7 ls st σ Q := (am_r_icmp (t := 9) d47_4 (by decide)).trans (am_ite _ _ trivial (by simp only [am_cond, decide_eq_true_eq]))
theorem r47_7  : am_Rn L xs d 47 7 ls st σ Q = am_Rn L xs d 47 8 ls (.int (-1) :: st) σ Q := am_r_iconst d47_7 (by decide)
theorem r47_8 {v : Int32} : am_Rn L xs d 47 8 ls [.int v] σ Q = Q (some (.int v)) σ := am_r_ireturn d47_8 rfl
theorem r47_9  : am_Rn L xs d 47 9 ls st σ Q = am_la ls 0 (fun x => am_Rn L xs d 47 10 ls (x :: st) σ Q) := am_r_aload_n d47_9
theorem r47_10  : am_Rn L xs d 47 10 ls st σ Q = am_li ls 1 (fun x => am_Rn L xs d 47 11 ls (.int x :: st) σ Q) := am_r_iload_n d47_10
theorem r47_11  : am_Rn L xs d 47 11 ls st σ Q = am_li ls 2 (fun x => am_Rn L xs d 47 12 ls (.int x :: st) σ Q) := am_r_iload_n d47_11
theorem r47_12  : am_Rn L xs d 47 12 ls st σ Q = am_li ls 3 (fun x => am_Rn L xs d 47 13 ls (.int x :: st) σ Q) := am_r_iload_n d47_12
theorem r47_13 {a1 a2 a3 : Value} {p : Nat} : am_Rn L xs (d + 1) 47 13 ls (a3 :: a2 :: a1 :: .ref p :: st) σ Q = ((am_oc σ p = 4 ∧ st.length ≤ 4 ∧ am_ok a1 = true ∧ am_ok a2 = true ∧ am_ok a3 = true) ∧ am_Call L xs d 48 [.ref p, a1, a2, a3] σ (fun r σ1 => am_Rn L xs (d + 1) 47 16 ls (r.toList ++ st) σ1 Q)) := am_R_virtual3 d47_13 rfl ⟨by decide, rfl⟩ rfl rfl (by decide)
theorem r47_16 {x : Int32} : am_Rn L xs d 47 16 ls (.int x :: st) σ Q = (5 < ls.length ∧ am_Rn L xs d 47 18 (ls.set 5 (.int x)) st σ Q) := am_r_istore d47_16
theorem r47_18  : am_Rn L xs d 47 18 ls st σ Q = am_Rn L xs d 47 19 ls (.int (-1) :: st) σ Q := am_r_iconst d47_18 (by decide)
theorem r47_19 {x : Int32} : am_Rn L xs d 47 19 ls (.int x :: st) σ Q = (6 < ls.length ∧ am_Rn L xs d 47 21 (ls.set 6 (.int x)) st σ Q) := am_r_istore d47_19
theorem r47_21  : am_Rn L xs d 47 21 ls st σ Q = am_li ls 1 (fun x => am_Rn L xs d 47 22 ls (.int x :: st) σ Q) := am_r_iload_n d47_21
theorem r47_22  : am_Rn L xs d 47 22 ls st σ Q = am_Rn L xs d 47 23 ls (.int 1 :: st) σ Q := am_r_iconst d47_22 (by decide)
theorem r47_23 {a b : Int32} : am_Rn L xs d 47 23 ls (.int b :: .int a :: st) σ Q = am_Rn L xs d 47 24 ls (.int (a + b) :: st) σ Q := am_r_iadd d47_23
theorem r47_24 {x : Int32} : am_Rn L xs d 47 24 ls (.int x :: st) σ Q = (7 < ls.length ∧ am_Rn L xs d 47 26 (ls.set 7 (.int x)) st σ Q) := am_r_istore d47_24
theorem r47_26  : am_Rn L xs d 47 26 ls st σ Q = am_li ls 7 (fun x => am_Rn L xs d 47 28 ls (.int x :: st) σ Q) := am_r_iload d47_26
theorem r47_28  : am_Rn L xs d 47 28 ls st σ Q = am_la ls 0 (fun x => am_Rn L xs d 47 29 ls (x :: st) σ Q) := am_r_aload_n d47_28
theorem r47_29 {p : Nat} : am_Rn L xs d 47 29 ls (.ref p :: st) σ Q = am_fd σ p 4 7 (fun v => am_Rn L xs d 47 32 ls (v :: st) σ Q) := am_r_getfield d47_29 rfl
theorem r47_32 {p : Nat} : am_Rn L xs d 47 32 ls (.ref p :: st) σ Q = am_fd σ p 1 4 (fun v => am_Rn L xs d 47 35 ls (v :: st) σ Q) := am_r_getfield d47_32 rfl
theorem r47_35 {a b : Int32} : am_Rn L xs d 47 35 ls (.int b :: .int a :: st) σ Q = if b ≤ a then am_Rn L xs d 47 74 ls st σ Q else am_Rn L xs d 47 38 ls st σ Q := (am_r_icmp (t := 74) d47_35 (by decide)).trans (am_ite _ _ trivial (by simp only [am_cond, decide_eq_true_eq]))
theorem r47_38  : am_Rn L xs d 47 38 ls st σ Q = am_la ls 0 (fun x => am_Rn L xs d 47 39 ls (x :: st) σ Q) := am_r_aload_n d47_38
theorem r47_39 {p : Nat} : am_Rn L xs d 47 39 ls (.ref p :: st) σ Q = am_fd σ p 4 7 (fun v => am_Rn L xs d 47 42 ls (v :: st) σ Q) := am_r_getfield d47_39 rfl
theorem r47_42 {p : Nat} : am_Rn L xs d 47 42 ls (.ref p :: st) σ Q = am_fd σ p 1 0 (fun v => am_Rn L xs d 47 45 ls (v :: st) σ Q) := am_r_getfield d47_42 rfl
theorem r47_45  : am_Rn L xs d 47 45 ls st σ Q = am_li ls 7 (fun x => am_Rn L xs d 47 47 ls (.int x :: st) σ Q) := am_r_iload d47_45
theorem r47_47 {p : Nat} {i : Int32} : am_Rn L xs d 47 47 ls (.int i :: .ref p :: st) σ Q = am_ai 0 σ p i (fun x => am_Rn L xs d 47 48 ls (.int x :: st) σ Q) := am_r_iaload d47_47
theorem r47_48  : am_Rn L xs d 47 48 ls st σ Q = am_li ls 1 (fun x => am_Rn L xs d 47 49 ls (.int x :: st) σ Q) := am_r_iload_n d47_48
theorem r47_49 {a b : Int32} : am_Rn L xs d 47 49 ls (.int b :: .int a :: st) σ Q = if ¬ a = b then am_Rn L xs d 47 68 ls st σ Q else am_Rn L xs d 47 52 ls st σ Q := (am_r_icmp (t := 68) d47_49 (by decide)).trans (am_ite _ _ trivial (by simp only [am_cond, decide_eq_true_eq]))
theorem r47_52  : am_Rn L xs d 47 52 ls st σ Q = am_la ls 0 (fun x => am_Rn L xs d 47 53 ls (x :: st) σ Q) := am_r_aload_n d47_52
theorem r47_53  : am_Rn L xs d 47 53 ls st σ Q = am_li ls 7 (fun x => am_Rn L xs d 47 55 ls (.int x :: st) σ Q) := am_r_iload d47_53
theorem r47_55  : am_Rn L xs d 47 55 ls st σ Q = am_li ls 5 (fun x => am_Rn L xs d 47 57 ls (.int x :: st) σ Q) := am_r_iload d47_55
theorem r47_57  : am_Rn L xs d 47 57 ls st σ Q = am_li ls 6 (fun x => am_Rn L xs d 47 59 ls (.int x :: st) σ Q) := am_r_iload d47_57
theorem r47_59  : am_Rn L xs d 47 59 ls st σ Q = am_li ls 4 (fun x => am_Rn L xs d 47 61 ls (.int x :: st) σ Q) := am_r_iload d47_59
theorem r47_61  : am_Rn L xs d 47 61 ls st σ Q = am_Rn L xs d 47 62 ls (.int 1 :: st) σ Q := am_r_iconst d47_61 (by decide)
theorem r47_62 {a b : Int32} : am_Rn L xs d 47 62 ls (.int b :: .int a :: st) σ Q = am_Rn L xs d 47 63 ls (.int (a + b) :: st) σ Q := am_r_iadd d47_62
theorem r47_63 {a1 a2 a3 a4 : Value} {p : Nat} : am_Rn L xs (d + 1) 47 63 ls (a4 :: a3 :: a2 :: a1 :: .ref p :: st) σ Q = ((am_oc σ p = 4 ∧ st.length ≤ 4 ∧ am_ok a1 = true ∧ am_ok a2 = true ∧ am_ok a3 = true ∧ am_ok a4 = true) ∧ am_Call L xs d 47 [.ref p, a1, a2, a3, a4] σ (fun r σ1 => am_Rn L xs (d + 1) 47 66 ls (r.toList ++ st) σ1 Q)) := am_R_virtual4 d47_63 rfl ⟨by decide, rfl⟩ rfl rfl (by decide)
theorem r47_66 {x : Int32} : am_Rn L xs d 47 66 ls (.int x :: st) σ Q = (6 < ls.length ∧ am_Rn L xs d 47 68 (ls.set 6 (.int x)) st σ Q) := am_r_istore d47_66
theorem r47_68  : am_Rn L xs d 47 68 ls st σ Q = am_li ls 7 (fun x => am_Rn L xs d 47 71 (ls.set 7 (.int (x + 1))) st σ Q) := am_r_iinc d47_68 (by decide)
theorem r47_71  : am_Rn L xs d 47 71 ls st σ Q = am_Rn L xs d 47 26 ls st σ Q := am_r_goto d47_71 (by decide)
theorem r47_74  : am_Rn L xs d 47 74 ls st σ Q = am_li ls 5 (fun x => am_Rn L xs d 47 76 ls (.int x :: st) σ Q) := am_r_iload d47_74
theorem r47_76 {v : Int32} : am_Rn L xs d 47 76 ls [.int v] σ Q = Q (some (.int v)) σ := am_r_ireturn d47_76 rfl
theorem d48_0 : decode (pg_code 48) 0 = .ok (.aload_n 0, 1) := by decide +kernel
theorem d48_1 : decode (pg_code 48) 1 = .ok (.getfield 12, 3) := by decide +kernel
theorem d48_4 : decode (pg_code 48) 4 = .ok (.iload_n 1, 1) := by decide +kernel
theorem d48_5 : decode (pg_code 48) 5 = .ok (.invokevirtual 105, 3) := by decide +kernel
theorem d48_8 : decode (pg_code 48) 8 = .ok (.istore 4, 2) := by decide +kernel
theorem d48_10 : decode (pg_code 48) 10 = .ok (.iload 4, 2) := by decide +kernel
theorem d48_12 : decode (pg_code 48) 12 = .ok (.iconst (-1), 1) := by decide +kernel
theorem d48_13 : decode (pg_code 48) 13 = .ok (.if_icmp .ne 59, 3) := by decide +kernel
theorem d48_16 : decode (pg_code 48) 16 = .ok (.aload_n 0, 1) := by decide +kernel
theorem d48_17 : decode (pg_code 48) 17 = .ok (.getfield 44, 3) := by decide +kernel
theorem d48_20 : decode (pg_code 48) 20 = .ok (.getfield 72, 3) := by decide +kernel
theorem d48_23 : decode (pg_code 48) 23 = .ok (.aload_n 0, 1) := by decide +kernel
theorem d48_24 : decode (pg_code 48) 24 = .ok (.getfield 51, 3) := by decide +kernel
theorem d48_27 : decode (pg_code 48) 27 = .ok (.iadd, 1) := by decide +kernel
theorem d48_28 : decode (pg_code 48) 28 = .ok (.istore 5, 2) := by decide +kernel
theorem d48_30 : decode (pg_code 48) 30 = .ok (.aload_n 0, 1) := by decide +kernel
theorem d48_31 : decode (pg_code 48) 31 = .ok (.dup, 1) := by decide +kernel
theorem d48_32 : decode (pg_code 48) 32 = .ok (.getfield 51, 3) := by decide +kernel
theorem d48_35 : decode (pg_code 48) 35 = .ok (.iconst 1, 1) := by decide +kernel
theorem d48_36 : decode (pg_code 48) 36 = .ok (.iadd, 1) := by decide +kernel
theorem d48_37 : decode (pg_code 48) 37 = .ok (.putfield 51, 3) := by decide +kernel
theorem d48_40 : decode (pg_code 48) 40 = .ok (.aload_n 0, 1) := by decide +kernel
theorem d48_41 : decode (pg_code 48) 41 = .ok (.getfield 21, 3) := by decide +kernel
theorem d48_44 : decode (pg_code 48) 44 = .ok (.iload 5, 2) := by decide +kernel
theorem d48_46 : decode (pg_code 48) 46 = .ok (.iload_n 2, 1) := by decide +kernel
theorem d48_47 : decode (pg_code 48) 47 = .ok (.iload_n 3, 1) := by decide +kernel
theorem d48_48 : decode (pg_code 48) 48 = .ok (.aload_n 0, 1) := by decide +kernel
theorem d48_49 : decode (pg_code 48) 49 = .ok (.getfield 48, 3) := by decide +kernel
theorem d48_52 : decode (pg_code 48) 52 = .ok (.getfield 108, 3) := by decide +kernel
theorem d48_55 : decode (pg_code 48) 55 = .ok (.iload_n 1, 1) := by decide +kernel
theorem d48_56 : decode (pg_code 48) 56 = .ok (.iaload, 1) := by decide +kernel
theorem d48_57 : decode (pg_code 48) 57 = .ok (.aload_n 0, 1) := by decide +kernel
theorem d48_58 : decode (pg_code 48) 58 = .ok (.getfield 48, 3) := by decide +kernel
theorem d48_61 : decode (pg_code 48) 61 = .ok (.getfield 111, 3) := by decide +kernel
theorem d48_64 : decode (pg_code 48) 64 = .ok (.iload_n 1, 1) := by decide +kernel
theorem d48_65 : decode (pg_code 48) 65 = .ok (.iaload, 1) := by decide +kernel
theorem d48_66 : decode (pg_code 48) 66 = .ok (.invokevirtual 114, 3) := by decide +kernel
theorem d48_69 : decode (pg_code 48) 69 = .ok (.iload 5, 2) := by decide +kernel
theorem d48_71 : decode (pg_code 48) 71 = .ok (.ireturn, 1) := by decide +kernel
theorem d48_72 : decode (pg_code 48) 72 = .ok (.aload_n 0, 1) := by decide +kernel
theorem d48_73 : decode (pg_code 48) 73 = .ok (.getfield 44, 3) := by decide +kernel
theorem d48_76 : decode (pg_code 48) 76 = .ok (.getfield 111, 3) := by decide +kernel
theorem d48_79 : decode (pg_code 48) 79 = .ok (.iload 4, 2) := by decide +kernel
theorem d48_81 : decode (pg_code 48) 81 = .ok (.iaload, 1) := by decide +kernel
theorem d48_82 : decode (pg_code 48) 82 = .ok (.aload_n 0, 1) := by decide +kernel
theorem d48_83 : decode (pg_code 48) 83 = .ok (.getfield 48, 3) := by decide +kernel
theorem d48_86 : decode (pg_code 48) 86 = .ok (.getfield 111, 3) := by decide +kernel
theorem d48_89 : decode (pg_code 48) 89 = .ok (.iload_n 1, 1) := by decide +kernel
theorem d48_90 : decode (pg_code 48) 90 = .ok (.iaload, 1) := by decide +kernel
theorem d48_91 : decode (pg_code 48) 91 = .ok (.if_icmp .eq 21, 3) := by decide +kernel
theorem d48_94 : decode (pg_code 48) 94 = .ok (.aload_n 0, 1) := by decide +kernel
theorem d48_95 : decode (pg_code 48) 95 = .ok (.getfield 21, 3) := by decide +kernel
theorem d48_98 : decode (pg_code 48) 98 = .ok (.iload 4, 2) := by decide +kernel
theorem d48_100 : decode (pg_code 48) 100 = .ok (.aload_n 0, 1) := by decide +kernel
theorem d48_101 : decode (pg_code 48) 101 = .ok (.getfield 48, 3) := by decide +kernel
theorem d48_104 : decode (pg_code 48) 104 = .ok (.getfield 111, 3) := by decide +kernel
theorem d48_107 : decode (pg_code 48) 107 = .ok (.iload_n 1, 1) := by decide +kernel
theorem d48_108 : decode (pg_code 48) 108 = .ok (.iaload, 1) := by decide +kernel
theorem d48_109 : decode (pg_code 48) 109 = .ok (.invokevirtual 118, 3) := by decide +kernel
theorem d48_112 : decode (pg_code 48) 112 = .ok (.aload_n 0, 1) := by decide +kernel
theorem d48_113 : decode (pg_code 48) 113 = .ok (.getfield 25, 3) := by decide +kernel
theorem d48_116 : decode (pg_code 48) 116 = .ok (.iload 4, 2) := by decide +kernel
theorem d48_118 : decode (pg_code 48) 118 = .ok (.baload, 1) := by decide +kernel
theorem d48_119 : decode (pg_code 48) 119 = .ok (.ifCond .ne 14, 3) := by decide +kernel
theorem d48_122 : decode (pg_code 48) 122 = .ok (.aload_n 0, 1) := by decide +kernel
theorem d48_123 : decode (pg_code 48) 123 = .ok (.getfield 21, 3) := by decide +kernel
theorem d48_126 : decode (pg_code 48) 126 = .ok (.iload 4, 2) := by decide +kernel
theorem d48_128 : decode (pg_code 48) 128 = .ok (.iload_n 2, 1) := by decide +kernel
theorem d48_129 : decode (pg_code 48) 129 = .ok (.iload_n 3, 1) := by decide +kernel
theorem d48_130 : decode (pg_code 48) 130 = .ok (.invokevirtual 121, 3) := by decide +kernel
theorem d48_133 : decode (pg_code 48) 133 = .ok (.iload 4, 2) := by decide +kernel
theorem d48_135 : decode (pg_code 48) 135 = .ok (.ireturn, 1) := by decide +kernel
theorem e48 {b1 b2 b3 b4 : Value} : am_Call L xs d 48 [b1, b2, b3, b4] σ Q = am_Rn L xs d 48 0 [b1, b2, b3, b4, .retAddr 0, .retAddr 0] [] σ Q := rfl
theorem r48_0  : am_Rn L xs d 48 0 ls st σ Q = am_la ls 0 (fun x => am_Rn L xs d 48 1 ls (x :: st) σ Q) := am_r_aload_n d48_0
theorem r48_1 {p : Nat} : am_Rn L xs d 48 1 ls (.ref p :: st) σ Q = am_fd σ p 4 0 (fun v => am_Rn L xs d 48 4 ls (v :: st) σ Q) := am_r_getfield d48_1 rfl
theorem r48_4  : am_Rn L xs d 48 4 ls st σ Q = am_li ls 1 (fun x => am_Rn L xs d 48 5 ls (.int x :: st) σ Q) := am_r_iload_n d48_4
theorem r48_5 {a1 : Value} {p : Nat} : am_Rn L xs (d + 1) 48 5 ls (a1 :: .ref p :: st) σ Q = ((am_oc σ p = 3 ∧ st.length ≤ 4 ∧ am_ok a1 = true) ∧ am_Call L xs d 49 [.ref p, a1] σ (fun r σ1 => am_Rn L xs (d + 1) 48 8 ls (r.toList ++ st) σ1 Q)) := am_R_virtual1 d48_5 rfl ⟨by decide, rfl⟩ rfl rfl (by decide)
theorem r48_8 {x : Int32} : am_Rn L xs d 48 8 ls (.int x :: st) σ Q = (4 < ls.length ∧ am_Rn L xs d 48 10 (ls.set 4 (.int x)) st σ Q) := am_r_istore d48_8
theorem r48_10  : am_Rn L xs d 48 10 ls st σ Q = am_li ls 4 (fun x => am_Rn L xs d 48 12 ls (.int x :: st) σ Q) := am_r_iload d48_10
theorem r48_12  : am_Rn L xs d 48 12 ls st σ Q = am_Rn L xs d 48 13 ls (.int (-1) :: st) σ Q := am_r_iconst d48_12 (by decide)
theorem r48_13 {a b : Int32} : am_Rn L xs d 48 13 ls (.int b :: .int a :: st) σ Q = if ¬ a = b then am_Rn L xs d 48 72 ls st σ Q else am_Rn L xs d 48 16 ls st σ Q := (am_r_icmp (t := 72) d48_13 (by decide)).trans (am_ite _ _ trivial (by simp only [am_cond, decide_eq_true_eq]))
theorem r48_16  : am_Rn L xs d 48 16 ls st σ Q = am_la ls 0 (fun x => am_Rn L xs d 48 17 ls (x :: st) σ Q) := am_r_aload_n d48_16
theorem r48_17 {p : Nat} : am_Rn L xs d 48 17 ls (.ref p :: st) σ Q = am_fd σ p 4 6 (fun v => am_Rn L xs d 48 20 ls (v :: st) σ Q) := am_r_getfield d48_17 rfl
theorem r48_20 {p : Nat} : am_Rn L xs d 48 20 ls (.ref p :: st) σ Q = am_fd σ p 1 4 (fun v => am_Rn L xs d 48 23 ls (v :: st) σ Q) := am_r_getfield d48_20 rfl
theorem r48_23  : am_Rn L xs d 48 23 ls st σ Q = am_la ls 0 (fun x => am_Rn L xs d 48 24 ls (x :: st) σ Q) := am_r_aload_n d48_23
theorem r48_24 {p : Nat} : am_Rn L xs d 48 24 ls (.ref p :: st) σ Q = am_fd σ p 4 8 (fun v => am_Rn L xs d 48 27 ls (v :: st) σ Q) := am_r_getfield d48_24 rfl
theorem r48_27 {a b : Int32} : am_Rn L xs d 48 27 ls (.int b :: .int a :: st) σ Q = am_Rn L xs d 48 28 ls (.int (a + b) :: st) σ Q := am_r_iadd d48_27
theorem r48_28 {x : Int32} : am_Rn L xs d 48 28 ls (.int x :: st) σ Q = (5 < ls.length ∧ am_Rn L xs d 48 30 (ls.set 5 (.int x)) st σ Q) := am_r_istore d48_28
theorem r48_30  : am_Rn L xs d 48 30 ls st σ Q = am_la ls 0 (fun x => am_Rn L xs d 48 31 ls (x :: st) σ Q) := am_r_aload_n d48_30
theorem r48_31 {a : Value} : am_Rn L xs d 48 31 ls (a :: st) σ Q = (am_ok a = true ∧ am_Rn L xs d 48 32 ls (a :: a :: st) σ Q) := am_r_dup d48_31
theorem r48_32 {p : Nat} : am_Rn L xs d 48 32 ls (.ref p :: st) σ Q = am_fd σ p 4 8 (fun v => am_Rn L xs d 48 35 ls (v :: st) σ Q) := am_r_getfield d48_32 rfl
theorem r48_35  : am_Rn L xs d 48 35 ls st σ Q = am_Rn L xs d 48 36 ls (.int 1 :: st) σ Q := am_r_iconst d48_35 (by decide)
theorem r48_36 {a b : Int32} : am_Rn L xs d 48 36 ls (.int b :: .int a :: st) σ Q = am_Rn L xs d 48 37 ls (.int (a + b) :: st) σ Q := am_r_iadd d48_36
theorem r48_37 {p : Nat} {v : Value} : am_Rn L xs d 48 37 ls (v :: .ref p :: st) σ Q = am_wf 48 4 σ p 4 8 v (fun σ1 => am_Rn L xs d 48 40 ls st σ1 Q) := am_r_putfield d48_37 rfl
theorem r48_40  : am_Rn L xs d 48 40 ls st σ Q = am_la ls 0 (fun x => am_Rn L xs d 48 41 ls (x :: st) σ Q) := am_r_aload_n d48_40
theorem r48_41 {p : Nat} : am_Rn L xs d 48 41 ls (.ref p :: st) σ Q = am_fd σ p 4 1 (fun v => am_Rn L xs d 48 44 ls (v :: st) σ Q) := am_r_getfield d48_41 rfl
theorem r48_44  : am_Rn L xs d 48 44 ls st σ Q = am_li ls 5 (fun x => am_Rn L xs d 48 46 ls (.int x :: st) σ Q) := am_r_iload d48_44
theorem r48_46  : am_Rn L xs d 48 46 ls st σ Q = am_li ls 2 (fun x => am_Rn L xs d 48 47 ls (.int x :: st) σ Q) := am_r_iload_n d48_46
theorem r48_47  : am_Rn L xs d 48 47 ls st σ Q = am_li ls 3 (fun x => am_Rn L xs d 48 48 ls (.int x :: st) σ Q) := am_r_iload_n d48_47
theorem r48_48  : am_Rn L xs d 48 48 ls st σ Q = am_la ls 0 (fun x => am_Rn L xs d 48 49 ls (x :: st) σ Q) := am_r_aload_n d48_48
theorem r48_49 {p : Nat} : am_Rn L xs d 48 49 ls (.ref p :: st) σ Q = am_fd σ p 4 7 (fun v => am_Rn L xs d 48 52 ls (v :: st) σ Q) := am_r_getfield d48_49 rfl
theorem r48_52 {p : Nat} : am_Rn L xs d 48 52 ls (.ref p :: st) σ Q = am_fd σ p 1 2 (fun v => am_Rn L xs d 48 55 ls (v :: st) σ Q) := am_r_getfield d48_52 rfl
theorem r48_55  : am_Rn L xs d 48 55 ls st σ Q = am_li ls 1 (fun x => am_Rn L xs d 48 56 ls (.int x :: st) σ Q) := am_r_iload_n d48_55
theorem r48_56 {p : Nat} {i : Int32} : am_Rn L xs d 48 56 ls (.int i :: .ref p :: st) σ Q = am_ai 0 σ p i (fun x => am_Rn L xs d 48 57 ls (.int x :: st) σ Q) := am_r_iaload d48_56
theorem r48_57  : am_Rn L xs d 48 57 ls st σ Q = am_la ls 0 (fun x => am_Rn L xs d 48 58 ls (x :: st) σ Q) := am_r_aload_n d48_57
theorem r48_58 {p : Nat} : am_Rn L xs d 48 58 ls (.ref p :: st) σ Q = am_fd σ p 4 7 (fun v => am_Rn L xs d 48 61 ls (v :: st) σ Q) := am_r_getfield d48_58 rfl
theorem r48_61 {p : Nat} : am_Rn L xs d 48 61 ls (.ref p :: st) σ Q = am_fd σ p 1 3 (fun v => am_Rn L xs d 48 64 ls (v :: st) σ Q) := am_r_getfield d48_61 rfl
theorem r48_64  : am_Rn L xs d 48 64 ls st σ Q = am_li ls 1 (fun x => am_Rn L xs d 48 65 ls (.int x :: st) σ Q) := am_r_iload_n d48_64
theorem r48_65 {p : Nat} {i : Int32} : am_Rn L xs d 48 65 ls (.int i :: .ref p :: st) σ Q = am_ai 0 σ p i (fun x => am_Rn L xs d 48 66 ls (.int x :: st) σ Q) := am_r_iaload d48_65
theorem r48_66 {a1 a2 a3 a4 a5 : Value} {p : Nat} : am_Rn L xs (d + 1) 48 66 ls (a5 :: a4 :: a3 :: a2 :: a1 :: .ref p :: st) σ Q = ((am_oc σ p = 2 ∧ st.length ≤ 4 ∧ am_ok a1 = true ∧ am_ok a2 = true ∧ am_ok a3 = true ∧ am_ok a4 = true ∧ am_ok a5 = true) ∧ am_Call L xs d 50 [.ref p, a1, a2, a3, a4, a5] σ (fun r σ1 => am_Rn L xs (d + 1) 48 69 ls (r.toList ++ st) σ1 Q)) := am_R_virtual5 d48_66 rfl ⟨by decide, rfl⟩ rfl rfl (by decide)
theorem r48_69  : am_Rn L xs d 48 69 ls st σ Q = am_li ls 5 (fun x => am_Rn L xs d 48 71 ls (.int x :: st) σ Q) := am_r_iload d48_69
theorem r48_71 {v : Int32} : am_Rn L xs d 48 71 ls [.int v] σ Q = Q (some (.int v)) σ := am_r_ireturn d48_71 rfl
theorem r48_72  : am_Rn L xs d 48 72 ls st σ Q = am_la ls 0 (fun x => am_Rn L xs d 48 73 ls (x :: st) σ Q) := am_r_aload_n d48_72
theorem r48_73 {p : Nat} : am_Rn L xs d 48 73 ls (.ref p :: st) σ Q = am_fd σ p 4 6 (fun v => am_Rn L xs d 48 76 ls (v :: st) σ Q) := am_r_getfield d48_73 rfl
theorem r48_76 {p : Nat} : am_Rn L xs d 48 76 ls (.ref p :: st) σ Q = am_fd σ p 1 3 (fun v => am_Rn L xs d 48 79 ls (v :: st) σ Q) := am_r_getfield d48_76 rfl
theorem r48_79  : am_Rn L xs d 48 79 ls st σ Q = am_li ls 4 (fun x => am_Rn L xs d 48 81 ls (.int x :: st) σ Q) := am_r_iload d48_79
theorem r48_81 {p : Nat} {i : Int32} : am_Rn L xs d 48 81 ls (.int i :: .ref p :: st) σ Q = am_ai 0 σ p i (fun x => am_Rn L xs d 48 82 ls (.int x :: st) σ Q) := am_r_iaload d48_81
theorem r48_82  : am_Rn L xs d 48 82 ls st σ Q = am_la ls 0 (fun x => am_Rn L xs d 48 83 ls (x :: st) σ Q) := am_r_aload_n d48_82
theorem r48_83 {p : Nat} : am_Rn L xs d 48 83 ls (.ref p :: st) σ Q = am_fd σ p 4 7 (fun v => am_Rn L xs d 48 86 ls (v :: st) σ Q) := am_r_getfield d48_83 rfl
theorem r48_86 {p : Nat} : am_Rn L xs d 48 86 ls (.ref p :: st) σ Q = am_fd σ p 1 3 (fun v => am_Rn L xs d 48 89 ls (v :: st) σ Q) := am_r_getfield d48_86 rfl
theorem r48_89  : am_Rn L xs d 48 89 ls st σ Q = am_li ls 1 (fun x => am_Rn L xs d 48 90 ls (.int x :: st) σ Q) := am_r_iload_n d48_89
theorem r48_90 {p : Nat} {i : Int32} : am_Rn L xs d 48 90 ls (.int i :: .ref p :: st) σ Q = am_ai 0 σ p i (fun x => am_Rn L xs d 48 91 ls (.int x :: st) σ Q) := am_r_iaload d48_90
theorem r48_91 {a b : Int32} : am_Rn L xs d 48 91 ls (.int b :: .int a :: st) σ Q = if a = b then am_Rn L xs d 48 112 ls st σ Q else am_Rn L xs d 48 94 ls st σ Q := (am_r_icmp (t := 112) d48_91 (by decide)).trans (am_ite _ _ trivial (by simp only [am_cond, decide_eq_true_eq]))
theorem r48_94  : am_Rn L xs d 48 94 ls st σ Q = am_la ls 0 (fun x => am_Rn L xs d 48 95 ls (x :: st) σ Q) := am_r_aload_n d48_94
theorem r48_95 {p : Nat} : am_Rn L xs d 48 95 ls (.ref p :: st) σ Q = am_fd σ p 4 1 (fun v => am_Rn L xs d 48 98 ls (v :: st) σ Q) := am_r_getfield d48_95 rfl
theorem r48_98  : am_Rn L xs d 48 98 ls st σ Q = am_li ls 4 (fun x => am_Rn L xs d 48 100 ls (.int x :: st) σ Q) := am_r_iload d48_98
theorem r48_100  : am_Rn L xs d 48 100 ls st σ Q = am_la ls 0 (fun x => am_Rn L xs d 48 101 ls (x :: st) σ Q) := am_r_aload_n d48_100
theorem r48_101 {p : Nat} : am_Rn L xs d 48 101 ls (.ref p :: st) σ Q = am_fd σ p 4 7 (fun v => am_Rn L xs d 48 104 ls (v :: st) σ Q) := am_r_getfield d48_101 rfl
theorem r48_104 {p : Nat} : am_Rn L xs d 48 104 ls (.ref p :: st) σ Q = am_fd σ p 1 3 (fun v => am_Rn L xs d 48 107 ls (v :: st) σ Q) := am_r_getfield d48_104 rfl
theorem r48_107  : am_Rn L xs d 48 107 ls st σ Q = am_li ls 1 (fun x => am_Rn L xs d 48 108 ls (.int x :: st) σ Q) := am_r_iload_n d48_107
theorem r48_108 {p : Nat} {i : Int32} : am_Rn L xs d 48 108 ls (.int i :: .ref p :: st) σ Q = am_ai 0 σ p i (fun x => am_Rn L xs d 48 109 ls (.int x :: st) σ Q) := am_r_iaload d48_108
theorem r48_109 {a1 a2 : Value} {p : Nat} : am_Rn L xs (d + 1) 48 109 ls (a2 :: a1 :: .ref p :: st) σ Q = ((am_oc σ p = 2 ∧ st.length ≤ 4 ∧ am_ok a1 = true ∧ am_ok a2 = true) ∧ am_Call L xs d 52 [.ref p, a1, a2] σ (fun r σ1 => am_Rn L xs (d + 1) 48 112 ls (r.toList ++ st) σ1 Q)) := am_R_virtual2 d48_109 rfl ⟨by decide, rfl⟩ rfl rfl (by decide)
theorem r48_112  : am_Rn L xs d 48 112 ls st σ Q = am_la ls 0 (fun x => am_Rn L xs d 48 113 ls (x :: st) σ Q) := am_r_aload_n d48_112
theorem r48_113 {p : Nat} : am_Rn L xs d 48 113 ls (.ref p :: st) σ Q = am_fd σ p 4 2 (fun v => am_Rn L xs d 48 116 ls (v :: st) σ Q) := am_r_getfield d48_113 rfl
theorem r48_116  : am_Rn L xs d 48 116 ls st σ Q = am_li ls 4 (fun x => am_Rn L xs d 48 118 ls (.int x :: st) σ Q) := am_r_iload d48_116
theorem r48_118 {p : Nat} {i : Int32} : am_Rn L xs d 48 118 ls (.int i :: .ref p :: st) σ Q = am_ai 1 σ p i (fun x => am_Rn L xs d 48 119 ls (.int x :: st) σ Q) := am_r_baload d48_118
theorem r48_119 {a : Int32} : am_Rn L xs d 48 119 ls (.int a :: st) σ Q = if ¬ a = 0 then am_Rn L xs d 48 133 ls st σ Q else am_Rn L xs d 48 122 ls st σ Q := (am_r_if (t := 133) d48_119 (by decide)).trans (am_ite _ _ trivial (by simp only [am_cond, decide_eq_true_eq]))
theorem r48_122  : am_Rn L xs d 48 122 ls st σ Q = am_la ls 0 (fun x => am_Rn L xs d 48 123 ls (x :: st) σ Q) := am_r_aload_n d48_122
theorem r48_123 {p : Nat} : am_Rn L xs d 48 123 ls (.ref p :: st) σ Q = am_fd σ p 4 1 (fun v => am_Rn L xs d 48 126 ls (v :: st) σ Q) := am_r_getfield d48_123 rfl
theorem r48_126  : am_Rn L xs d 48 126 ls st σ Q = am_li ls 4 (fun x => am_Rn L xs d 48 128 ls (.int x :: st) σ Q) := am_r_iload d48_126
theorem r48_128  : am_Rn L xs d 48 128 ls st σ Q = am_li ls 2 (fun x => am_Rn L xs d 48 129 ls (.int x :: st) σ Q) := am_r_iload_n d48_128
theorem r48_129  : am_Rn L xs d 48 129 ls st σ Q = am_li ls 3 (fun x => am_Rn L xs d 48 130 ls (.int x :: st) σ Q) := am_r_iload_n d48_129
theorem r48_130 {a1 a2 a3 : Value} {p : Nat} : am_Rn L xs (d + 1) 48 130 ls (a3 :: a2 :: a1 :: .ref p :: st) σ Q = ((am_oc σ p = 2 ∧ st.length ≤ 4 ∧ am_ok a1 = true ∧ am_ok a2 = true ∧ am_ok a3 = true) ∧ am_Call L xs d 53 [.ref p, a1, a2, a3] σ (fun r σ1 => am_Rn L xs (d + 1) 48 133 ls (r.toList ++ st) σ1 Q)) := am_R_virtual3 d48_130 rfl ⟨by decide, rfl⟩ rfl rfl (by decide)
theorem r48_133  : am_Rn L xs d 48 133 ls st σ Q = am_li ls 4 (fun x => am_Rn L xs d 48 135 ls (.int x :: st) σ Q) := am_r_iload d48_133
theorem r48_135 {v : Int32} : am_Rn L xs d 48 135 ls [.int v] σ Q = Q (some (.int v)) σ := am_r_ireturn d48_135 rfl
theorem d54_0 : decode (pg_code 54) 0 = .ok (.aload_n 0, 1) := by decide +kernel
theorem d54_1 : decode (pg_code 54) 1 = .ok (.getfield 44, 3) := by decide +kernel
theorem d54_4 : decode (pg_code 54) 4 = .ok (.getfield 72, 3) := by decide +kernel
theorem d54_7 : decode (pg_code 54) 7 = .ok (.iconst 1, 1) := by decide +kernel
theorem d54_8 : decode (pg_code 54) 8 = .ok (.isub, 1) := by decide +kernel
theorem d54_9 : decode (pg_code 54) 9 = .ok (.istore_n 1, 1) := by decide +kernel
theorem d54_10 : decode (pg_code 54) 10 = .ok (.iload_n 1, 1) := by decide +kernel
theorem d54_11 : decode (pg_code 54) 11 = .ok (.ifCond .lt 29, 3) := by decide +kernel
theorem d54_14 : decode (pg_code 54) 14 = .ok (.aload_n 0, 1) := by decide +kernel
theorem d54_15 : decode (pg_code 54) 15 = .ok (.getfield 12, 3) := by decide +kernel
theorem d54_18 : decode (pg_code 54) 18 = .ok (.iload_n 1, 1) := by decide +kernel
theorem d54_19 : decode (pg_code 54) 19 = .ok (.invokevirtual 79, 3) := by decide +kernel
theorem d54_22 : decode (pg_code 54) 22 = .ok (.iconst (-1), 1) := by decide +kernel
theorem d54_23 : decode (pg_code 54) 23 = .ok (.if_icmp .ne 11, 3) := by decide +kernel
theorem d54_26 : decode (pg_code 54) 26 = .ok (.aload_n 0, 1) := by decide +kernel
theorem d54_27 : decode (pg_code 54) 27 = .ok (.getfield 21, 3) := by decide +kernel
theorem d54_30 : decode (pg_code 54) 30 = .ok (.iload_n 1, 1) := by decide +kernel
theorem d54_31 : decode (pg_code 54) 31 = .ok (.invokevirtual 125, 3) := by decide +kernel
theorem d54_34 : decode (pg_code 54) 34 = .ok (.iinc 1 (-1), 3) := by decide +kernel
theorem d54_37 : decode (pg_code 54) 37 = .ok (.goto (-27), 3) := by decide +kernel
theorem d54_40 : decode (pg_code 54) 40 = .ok (.return_, 1) := by decide +kernel
theorem e54 {b1 : Value} : am_Call L xs d 54 [b1] σ Q = am_Rn L xs d 54 0 [b1, .retAddr 0] [] σ Q := rfl
theorem r54_0  : am_Rn L xs d 54 0 ls st σ Q = am_la ls 0 (fun x => am_Rn L xs d 54 1 ls (x :: st) σ Q) := am_r_aload_n d54_0
theorem r54_1 {p : Nat} : am_Rn L xs d 54 1 ls (.ref p :: st) σ Q = am_fd σ p 4 6 (fun v => am_Rn L xs d 54 4 ls (v :: st) σ Q) := am_r_getfield d54_1 rfl
theorem r54_4 {p : Nat} : am_Rn L xs d 54 4 ls (.ref p :: st) σ Q = am_fd σ p 1 4 (fun v => am_Rn L xs d 54 7 ls (v :: st) σ Q) := am_r_getfield d54_4 rfl
theorem r54_7  : am_Rn L xs d 54 7 ls st σ Q = am_Rn L xs d 54 8 ls (.int 1 :: st) σ Q := am_r_iconst d54_7 (by decide)
theorem r54_8 {a b : Int32} : am_Rn L xs d 54 8 ls (.int b :: .int a :: st) σ Q = am_Rn L xs d 54 9 ls (.int (a - b) :: st) σ Q := am_r_isub d54_8
theorem r54_9 {x : Int32} : am_Rn L xs d 54 9 ls (.int x :: st) σ Q = (1 < ls.length ∧ am_Rn L xs d 54 10 (ls.set 1 (.int x)) st σ Q) := am_r_istore_n d54_9
theorem r54_10  : am_Rn L xs d 54 10 ls st σ Q = am_li ls 1 (fun x => am_Rn L xs d 54 11 ls (.int x :: st) σ Q) := am_r_iload_n d54_10
theorem r54_11 {a : Int32} : am_Rn L xs d 54 11 ls (.int a :: st) σ Q = if a < 0 then am_Rn L xs d 54 40 ls st σ Q else am_Rn L xs d 54 14 ls st σ Q := (am_r_if (t := 40) d54_11 (by decide)).trans (am_ite _ _ trivial (by simp only [am_cond, decide_eq_true_eq]))
theorem r54_14  : am_Rn L xs d 54 14 ls st σ Q = am_la ls 0 (fun x => am_Rn L xs d 54 15 ls (x :: st) σ Q) := am_r_aload_n d54_14
theorem r54_15 {p : Nat} : am_Rn L xs d 54 15 ls (.ref p :: st) σ Q = am_fd σ p 4 0 (fun v => am_Rn L xs d 54 18 ls (v :: st) σ Q) := am_r_getfield d54_15 rfl
theorem r54_18  : am_Rn L xs d 54 18 ls st σ Q = am_li ls 1 (fun x => am_Rn L xs d 54 19 ls (.int x :: st) σ Q) := am_r_iload_n d54_18
theorem r54_19 {a1 : Value} {p : Nat} : am_Rn L xs (d + 1) 54 19 ls (a1 :: .ref p :: st) σ Q = ((am_oc σ p = 3 ∧ st.length ≤ 4 ∧ am_ok a1 = true) ∧ am_Call L xs d 44 [.ref p, a1] σ (fun r σ1 => am_Rn L xs (d + 1) 54 22 ls (r.toList ++ st) σ1 Q)) := am_R_virtual1 d54_19 rfl ⟨by decide, rfl⟩ rfl rfl (by decide)
theorem r54_22  : am_Rn L xs d 54 22 ls st σ Q = am_Rn L xs d 54 23 ls (.int (-1) :: st) σ Q := am_r_iconst d54_22 (by decide)
theorem r54_23 {a b : Int32} : am_Rn L xs d 54 23 ls (.int b :: .int a :: st) σ Q = if ¬ a = b then am_Rn L xs d 54 34 ls st σ Q else am_Rn L xs d 54 26 ls st σ Q := (am_r_icmp (t := 34) d54_23 (by decide)).trans (am_ite _ _ trivial (by simp only [am_cond, decide_eq_true_eq]))
theorem r54_26  : am_Rn L xs d 54 26 ls st σ Q = am_la ls 0 (fun x => am_Rn L xs d 54 27 ls (x :: st) σ Q) := am_r_aload_n d54_26
theorem r54_27 {p : Nat} : am_Rn L xs d 54 27 ls (.ref p :: st) σ Q = am_fd σ p 4 1 (fun v => am_Rn L xs d 54 30 ls (v :: st) σ Q) := am_r_getfield d54_27 rfl
theorem r54_30  : am_Rn L xs d 54 30 ls st σ Q = am_li ls 1 (fun x => am_Rn L xs d 54 31 ls (.int x :: st) σ Q) := am_r_iload_n d54_30
theorem r54_31 {a1 : Value} {p : Nat} : am_Rn L xs (d + 1) 54 31 ls (a1 :: .ref p :: st) σ Q = ((am_oc σ p = 2 ∧ st.length ≤ 4 ∧ am_ok a1 = true) ∧ am_Call L xs d 55 [.ref p, a1] σ (fun r σ1 => am_Rn L xs (d + 1) 54 34 ls (r.toList ++ st) σ1 Q)) := am_R_virtual1 d54_31 rfl ⟨by decide, rfl⟩ rfl rfl (by decide)
theorem r54_34  : am_Rn L xs d 54 34 ls st σ Q = am_li ls 1 (fun x => am_Rn L xs d 54 37 (ls.set 1 (.int (x + (-1)))) st σ Q) := am_r_iinc d54_34 (by decide)
theorem r54_37  : am_Rn L xs d 54 37 ls st σ Q = am_Rn L xs d 54 10 ls st σ Q := am_r_goto d54_37 (by decide)
theorem r54_40  : am_Rn L xs d 54 40 ls [] σ Q = Q none σ := am_r_return d54_40 rfl
end
