/-! Rows of the program's instructions, written by program (wip/gen/gen_rows.py) -/
section
variable {L : Nat} {xs : Nat → Int32} {d : Nat} {ls st : List Value} {σ : am_S} {Q : Option Value → am_S → Prop}
theorem d25_0 : decode (pg_code 25) 0 = .ok (.aload_n 0, 1) := by decide +kernel
theorem d25_1 : decode (pg_code 25) 1 = .ok (.aload_n 1, 1) := by decide +kernel
theorem d25_2 : decode (pg_code 25) 2 = .ok (.putfield 35, 3) := by decide +kernel
theorem d25_5 : decode (pg_code 25) 5 = .ok (.aload_n 0, 1) := by decide +kernel
theorem d25_6 : decode (pg_code 25) 6 = .ok (.aload_n 2, 1) := by decide +kernel
theorem d25_7 : decode (pg_code 25) 7 = .ok (.putfield 39, 3) := by decide +kernel
theorem d25_10 : decode (pg_code 25) 10 = .ok (.aload_n 0, 1) := by decide +kernel
theorem d25_11 : decode (pg_code 25) 11 = .ok (.getfield 9, 3) := by decide +kernel
theorem d25_14 : decode (pg_code 25) 14 = .ok (.iconst (-1), 1) := by decide +kernel
theorem d25_15 : decode (pg_code 25) 15 = .ok (.invokestatic 42, 3) := by decide +kernel
theorem d25_18 : decode (pg_code 25) 18 = .ok (.aload_n 0, 1) := by decide +kernel
theorem d25_19 : decode (pg_code 25) 19 = .ok (.getfield 15, 3) := by decide +kernel
theorem d25_22 : decode (pg_code 25) 22 = .ok (.iconst (-1), 1) := by decide +kernel
theorem d25_23 : decode (pg_code 25) 23 = .ok (.invokestatic 42, 3) := by decide +kernel
theorem d25_26 : decode (pg_code 25) 26 = .ok (.aload_n 0, 1) := by decide +kernel
theorem d25_27 : decode (pg_code 25) 27 = .ok (.getfield 35, 3) := by decide +kernel
theorem d25_30 : decode (pg_code 25) 30 = .ok (.aload_n 0, 1) := by decide +kernel
theorem d25_31 : decode (pg_code 25) 31 = .ok (.getfield 18, 3) := by decide +kernel
theorem d25_34 : decode (pg_code 25) 34 = .ok (.invokevirtual 48, 3) := by decide +kernel
theorem d25_37 : decode (pg_code 25) 37 = .ok (.aload_n 0, 1) := by decide +kernel
theorem d25_38 : decode (pg_code 25) 38 = .ok (.getfield 35, 3) := by decide +kernel
theorem d25_41 : decode (pg_code 25) 41 = .ok (.aload_n 0, 1) := by decide +kernel
theorem d25_42 : decode (pg_code 25) 42 = .ok (.getfield 21, 3) := by decide +kernel
theorem d25_45 : decode (pg_code 25) 45 = .ok (.invokevirtual 52, 3) := by decide +kernel
theorem d25_48 : decode (pg_code 25) 48 = .ok (.aload_n 0, 1) := by decide +kernel
theorem d25_49 : decode (pg_code 25) 49 = .ok (.getfield 39, 3) := by decide +kernel
theorem d25_52 : decode (pg_code 25) 52 = .ok (.aload_n 0, 1) := by decide +kernel
theorem d25_53 : decode (pg_code 25) 53 = .ok (.getfield 24, 3) := by decide +kernel
theorem d25_56 : decode (pg_code 25) 56 = .ok (.invokevirtual 52, 3) := by decide +kernel
theorem d25_59 : decode (pg_code 25) 59 = .ok (.aload_n 0, 1) := by decide +kernel
theorem d25_60 : decode (pg_code 25) 60 = .ok (.invokevirtual 55, 3) := by decide +kernel
theorem d25_63 : decode (pg_code 25) 63 = .ok (.iconst 1, 1) := by decide +kernel
theorem d25_64 : decode (pg_code 25) 64 = .ok (.istore_n 3, 1) := by decide +kernel
theorem d25_65 : decode (pg_code 25) 65 = .ok (.iconst 0, 1) := by decide +kernel
theorem d25_66 : decode (pg_code 25) 66 = .ok (.istore 4, 2) := by decide +kernel
theorem d25_68 : decode (pg_code 25) 68 = .ok (.iload 4, 2) := by decide +kernel
theorem d25_70 : decode (pg_code 25) 70 = .ok (.bipush 12, 2) := by decide +kernel
theorem d25_72 : decode (pg_code 25) 72 = .ok (.if_icmp .ge 18, 3) := by decide +kernel
theorem d25_75 : decode (pg_code 25) 75 = .ok (.iload_n 3, 1) := by decide +kernel
theorem d25_76 : decode (pg_code 25) 76 = .ok (.ifCond .eq 14, 3) := by decide +kernel
theorem d25_79 : decode (pg_code 25) 79 = .ok (.aload_n 0, 1) := by decide +kernel
theorem d25_80 : decode (pg_code 25) 80 = .ok (.invokevirtual 58, 3) := by decide +kernel
theorem d25_83 : decode (pg_code 25) 83 = .ok (.istore_n 3, 1) := by decide +kernel
theorem d25_84 : decode (pg_code 25) 84 = .ok (.iinc 4 1, 3) := by decide +kernel
theorem d25_87 : decode (pg_code 25) 87 = .ok (.goto (-19), 3) := by decide +kernel
theorem d25_90 : decode (pg_code 25) 90 = .ok (.aload_n 0, 1) := by decide +kernel
theorem d25_91 : decode (pg_code 25) 91 = .ok (.invokevirtual 62, 3) := by decide +kernel
theorem d25_94 : decode (pg_code 25) 94 = .ok (.aload_n 0, 1) := by decide +kernel
theorem d25_95 : decode (pg_code 25) 95 = .ok (.invokevirtual 65, 3) := by decide +kernel
theorem d25_98 : decode (pg_code 25) 98 = .ok (.return_, 1) := by decide +kernel
theorem e25 {b1 b2 b3 : Value} : am_Call L xs d 25 [b1, b2, b3] σ Q = am_Rn L xs d 25 0 [b1, b2, b3, .retAddr 0, .retAddr 0] [] σ Q := rfl
theorem r25_0  : am_Rn L xs d 25 0 ls st σ Q = am_la ls 0 (fun x => am_Rn L xs d 25 1 ls (x :: st) σ Q) := am_r_aload_n d25_0
theorem r25_1  : am_Rn L xs d 25 1 ls st σ Q = am_la ls 1 (fun x => am_Rn L xs d 25 2 ls (x :: st) σ Q) := am_r_aload_n d25_1
theorem r25_2 {p : Nat} {v : Value} : am_Rn L xs d 25 2 ls (v :: .ref p :: st) σ Q = am_wf 25 3 σ p 3 6 v (fun σ1 => am_Rn L xs d 25 5 ls st σ1 Q) := am_r_putfield d25_2 rfl
theorem r25_5  : am_Rn L xs d 25 5 ls st σ Q = am_la ls 0 (fun x => am_Rn L xs d 25 6 ls (x :: st) σ Q) := am_r_aload_n d25_5
theorem r25_6  : am_Rn L xs d 25 6 ls st σ Q = am_la ls 2 (fun x => am_Rn L xs d 25 7 ls (x :: st) σ Q) := am_r_aload_n d25_6
theorem r25_7 {p : Nat} {v : Value} : am_Rn L xs d 25 7 ls (v :: .ref p :: st) σ Q = am_wf 25 3 σ p 3 7 v (fun σ1 => am_Rn L xs d 25 10 ls st σ1 Q) := am_r_putfield d25_7 rfl
theorem r25_10  : am_Rn L xs d 25 10 ls st σ Q = am_la ls 0 (fun x => am_Rn L xs d 25 11 ls (x :: st) σ Q) := am_r_aload_n d25_10
theorem r25_11 {p : Nat} : am_Rn L xs d 25 11 ls (.ref p :: st) σ Q = am_fd σ p 3 0 (fun v => am_Rn L xs d 25 14 ls (v :: st) σ Q) := am_r_getfield d25_11 rfl
theorem r25_14  : am_Rn L xs d 25 14 ls st σ Q = am_Rn L xs d 25 15 ls (.int (-1) :: st) σ Q := am_r_iconst d25_14 (by decide)
theorem r25_15 {a1 a2 : Value} : am_Rn L xs (d + 1) 25 15 ls (a2 :: a1 :: st) σ Q = ((st.length ≤ 4 ∧ am_ok a1 = true ∧ am_ok a2 = true) ∧ am_Call L xs d 2 [a1, a2] σ (fun r σ1 => am_Rn L xs (d + 1) 25 18 ls (r.toList ++ st) σ1 Q)) := am_R_static2 d25_15 rfl ⟨by decide, rfl⟩ rfl (by decide)
theorem r25_18  : am_Rn L xs d 25 18 ls st σ Q = am_la ls 0 (fun x => am_Rn L xs d 25 19 ls (x :: st) σ Q) := am_r_aload_n d25_18
theorem r25_19 {p : Nat} : am_Rn L xs d 25 19 ls (.ref p :: st) σ Q = am_fd σ p 3 1 (fun v => am_Rn L xs d 25 22 ls (v :: st) σ Q) := am_r_getfield d25_19 rfl
theorem r25_22  : am_Rn L xs d 25 22 ls st σ Q = am_Rn L xs d 25 23 ls (.int (-1) :: st) σ Q := am_r_iconst d25_22 (by decide)
theorem r25_23 {a1 a2 : Value} : am_Rn L xs (d + 1) 25 23 ls (a2 :: a1 :: st) σ Q = ((st.length ≤ 4 ∧ am_ok a1 = true ∧ am_ok a2 = true) ∧ am_Call L xs d 2 [a1, a2] σ (fun r σ1 => am_Rn L xs (d + 1) 25 26 ls (r.toList ++ st) σ1 Q)) := am_R_static2 d25_23 rfl ⟨by decide, rfl⟩ rfl (by decide)
theorem r25_26  : am_Rn L xs d 25 26 ls st σ Q = am_la ls 0 (fun x => am_Rn L xs d 25 27 ls (x :: st) σ Q) := am_r_aload_n d25_26
theorem r25_27 {p : Nat} : am_Rn L xs d 25 27 ls (.ref p :: st) σ Q = am_fd σ p 3 6 (fun v => am_Rn L xs d 25 30 ls (v :: st) σ Q) := am_r_getfield d25_27 rfl
theorem r25_30  : am_Rn L xs d 25 30 ls st σ Q = am_la ls 0 (fun x => am_Rn L xs d 25 31 ls (x :: st) σ Q) := am_r_aload_n d25_30
theorem r25_31 {p : Nat} : am_Rn L xs d 25 31 ls (.ref p :: st) σ Q = am_fd σ p 3 2 (fun v => am_Rn L xs d 25 34 ls (v :: st) σ Q) := am_r_getfield d25_31 rfl
theorem r25_34 {a1 : Value} {p : Nat} : am_Rn L xs (d + 1) 25 34 ls (a1 :: .ref p :: st) σ Q = ((am_oc σ p = 1 ∧ st.length ≤ 4 ∧ am_ok a1 = true) ∧ am_Call L xs d 18 [.ref p, a1] σ (fun r σ1 => am_Rn L xs (d + 1) 25 37 ls (r.toList ++ st) σ1 Q)) := am_R_virtual1 d25_34 rfl ⟨by decide, rfl⟩ rfl rfl (by decide)
theorem r25_37  : am_Rn L xs d 25 37 ls st σ Q = am_la ls 0 (fun x => am_Rn L xs d 25 38 ls (x :: st) σ Q) := am_r_aload_n d25_37
theorem r25_38 {p : Nat} : am_Rn L xs d 25 38 ls (.ref p :: st) σ Q = am_fd σ p 3 6 (fun v => am_Rn L xs d 25 41 ls (v :: st) σ Q) := am_r_getfield d25_38 rfl
theorem r25_41  : am_Rn L xs d 25 41 ls st σ Q = am_la ls 0 (fun x => am_Rn L xs d 25 42 ls (x :: st) σ Q) := am_r_aload_n d25_41
theorem r25_42 {p : Nat} : am_Rn L xs d 25 42 ls (.ref p :: st) σ Q = am_fd σ p 3 3 (fun v => am_Rn L xs d 25 45 ls (v :: st) σ Q) := am_r_getfield d25_42 rfl
theorem r25_45 {a1 : Value} {p : Nat} : am_Rn L xs (d + 1) 25 45 ls (a1 :: .ref p :: st) σ Q = ((am_oc σ p = 1 ∧ st.length ≤ 4 ∧ am_ok a1 = true) ∧ am_Call L xs d 26 [.ref p, a1] σ (fun r σ1 => am_Rn L xs (d + 1) 25 48 ls (r.toList ++ st) σ1 Q)) := am_R_virtual1 d25_45 rfl ⟨by decide, rfl⟩ rfl rfl (by decide)
theorem r25_48  : am_Rn L xs d 25 48 ls st σ Q = am_la ls 0 (fun x => am_Rn L xs d 25 49 ls (x :: st) σ Q) := am_r_aload_n d25_48
theorem r25_49 {p : Nat} : am_Rn L xs d 25 49 ls (.ref p :: st) σ Q = am_fd σ p 3 7 (fun v => am_Rn L xs d 25 52 ls (v :: st) σ Q) := am_r_getfield d25_49 rfl
theorem r25_52  : am_Rn L xs d 25 52 ls st σ Q = am_la ls 0 (fun x => am_Rn L xs d 25 53 ls (x :: st) σ Q) := am_r_aload_n d25_52
theorem r25_53 {p : Nat} : am_Rn L xs d 25 53 ls (.ref p :: st) σ Q = am_fd σ p 3 4 (fun v => am_Rn L xs d 25 56 ls (v :: st) σ Q) := am_r_getfield d25_53 rfl
theorem r25_56 {a1 : Value} {p : Nat} : am_Rn L xs (d + 1) 25 56 ls (a1 :: .ref p :: st) σ Q = ((am_oc σ p = 1 ∧ st.length ≤ 4 ∧ am_ok a1 = true) ∧ am_Call L xs d 26 [.ref p, a1] σ (fun r σ1 => am_Rn L xs (d + 1) 25 59 ls (r.toList ++ st) σ1 Q)) := am_R_virtual1 d25_56 rfl ⟨by decide, rfl⟩ rfl rfl (by decide)
theorem r25_59  : am_Rn L xs d 25 59 ls st σ Q = am_la ls 0 (fun x => am_Rn L xs d 25 60 ls (x :: st) σ Q) := am_r_aload_n d25_59
theorem r25_60 {p : Nat} : am_Rn L xs (d + 1) 25 60 ls (.ref p :: st) σ Q = ((am_oc σ p = 3 ∧ st.length ≤ 4) ∧ am_Call L xs d 27 [.ref p] σ (fun r σ1 => am_Rn L xs (d + 1) 25 63 ls (r.toList ++ st) σ1 Q)) := am_R_virtual0 d25_60 rfl ⟨by decide, rfl⟩ rfl rfl (by decide)
theorem r25_63  : am_Rn L xs d 25 63 ls st σ Q = am_Rn L xs d 25 64 ls (.int 1 :: st) σ Q := am_r_iconst d25_63 (by decide)
theorem r25_64 {x : Int32} : am_Rn L xs d 25 64 ls (.int x :: st) σ Q = (3 < ls.length ∧ am_Rn L xs d 25 65 (ls.set 3 (.int x)) st σ Q) := am_r_istore_n d25_64
theorem r25_65  : am_Rn L xs d 25 65 ls st σ Q = am_Rn L xs d 25 66 ls (.int 0 :: st) σ Q := am_r_iconst d25_65 (by decide)
theorem r25_66 {x : Int32} : am_Rn L xs d 25 66 ls (.int x :: st) σ Q = (4 < ls.length ∧ am_Rn L xs d 25 68 (ls.set 4 (.int x)) st σ Q) := am_r_istore d25_66
theorem r25_68  : am_Rn L xs d 25 68 ls st σ Q = am_li ls 4 (fun x => am_Rn L xs d 25 70 ls (.int x :: st) σ Q) := am_r_iload d25_68
theorem r25_70  : am_Rn L xs d 25 70 ls st σ Q = am_Rn L xs d 25 72 ls (.int 12 :: st) σ Q := am_r_bipush d25_70 (by decide)
theorem r25_72 {a b : Int32} : am_Rn L xs d 25 72 ls (.int b :: .int a :: st) σ Q = if b ≤ a then am_Rn L xs d 25 90 ls st σ Q else am_Rn L xs d 25 75 ls st σ Q := (am_r_icmp (t := 90) d25_72 (by decide)).trans (am_ite _ _ trivial (by simp only [am_cond, decide_eq_true_eq]))
theorem r25_75  : am_Rn L xs d 25 75 ls st σ Q = am_li ls 3 (fun x => am_Rn L xs d 25 76 ls (.int x :: st) σ Q) := am_r_iload_n d25_75
theorem r25_76 {a : Int32} : am_Rn L xs d 25 76 ls (.int a :: st) σ Q = if a = 0 then am_Rn L xs d 25 90 ls st σ Q else am_Rn L xs d 25 79 ls st σ Q := (am_r_if (t := 90) d25_76 (by decide)).trans (am_ite _ _ trivial (by simp only [am_cond, decide_eq_true_eq]))
theorem r25_79  : am_Rn L xs d 25 79 ls st σ Q = am_la ls 0 (fun x => am_Rn L xs d 25 80 ls (x :: st) σ Q) := am_r_aload_n d25_79
theorem r25_80 {p : Nat} : am_Rn L xs (d + 1) 25 80 ls (.ref p :: st) σ Q = ((am_oc σ p = 3 ∧ st.length ≤ 4) ∧ am_Call L xs d 28 [.ref p] σ (fun r σ1 => am_Rn L xs (d + 1) 25 83 ls (r.toList ++ st) σ1 Q)) := am_R_virtual0 d25_80 rfl ⟨by decide, rfl⟩ rfl rfl (by decide)
theorem r25_83 {x : Int32} : am_Rn L xs d 25 83 ls (.int x :: st) σ Q = (3 < ls.length ∧ am_Rn L xs d 25 84 (ls.set 3 (.int x)) st σ Q) := am_r_istore_n d25_83
theorem r25_84  : am_Rn L xs d 25 84 ls st σ Q = am_li ls 4 (fun x => am_Rn L xs d 25 87 (ls.set 4 (.int (x + 1))) st σ Q) := am_r_iinc d25_84 (by decide)
theorem r25_87  : am_Rn L xs d 25 87 ls st σ Q = am_Rn L xs d 25 68 ls st σ Q := am_r_goto d25_87 (by decide)
theorem r25_90  : am_Rn L xs d 25 90 ls st σ Q = am_la ls 0 (fun x => am_Rn L xs d 25 91 ls (x :: st) σ Q) := am_r_aload_n d25_90
theorem r25_91 {p : Nat} : am_Rn L xs (d + 1) 25 91 ls (.ref p :: st) σ Q = ((am_oc σ p = 3 ∧ st.length ≤ 4) ∧ am_Call L xs d 34 [.ref p] σ (fun r σ1 => am_Rn L xs (d + 1) 25 94 ls (r.toList ++ st) σ1 Q)) := am_R_virtual0 d25_91 rfl ⟨by decide, rfl⟩ rfl rfl (by decide)
theorem r25_94  : am_Rn L xs d 25 94 ls st σ Q = am_la ls 0 (fun x => am_Rn L xs d 25 95 ls (x :: st) σ Q) := am_r_aload_n d25_94
theorem r25_95 {p : Nat} : am_Rn L xs (d + 1) 25 95 ls (.ref p :: st) σ Q = ((am_oc σ p = 3 ∧ st.length ≤ 4) ∧ am_Call L xs d 40 [.ref p] σ (fun r σ1 => am_Rn L xs (d + 1) 25 98 ls (r.toList ++ st) σ1 Q)) := am_R_virtual0 d25_95 rfl ⟨by decide, rfl⟩ rfl rfl (by decide)
theorem r25_98  : am_Rn L xs d 25 98 ls [] σ Q = Q none σ := am_r_return d25_98 rfl
theorem d27_0 : decode (pg_code 27) 0 = .ok (.iconst 0, 1) := by decide +kernel
theorem d27_1 : decode (pg_code 27) 1 = .ok (.istore_n 1, 1) := by decide +kernel
theorem d27_2 : decode (pg_code 27) 2 = .ok (.iload_n 1, 1) := by decide +kernel
theorem d27_3 : decode (pg_code 27) 3 = .ok (.aload_n 0, 1) := by decide +kernel
theorem d27_4 : decode (pg_code 27) 4 = .ok (.getfield 35, 3) := by decide +kernel
theorem d27_7 : decode (pg_code 27) 7 = .ok (.getfield 68, 3) := by decide +kernel
theorem d27_10 : decode (pg_code 27) 10 = .ok (.if_icmp .ge 74, 3) := by decide +kernel
theorem d27_13 : decode (pg_code 27) 13 = .ok (.aload_n 0, 1) := by decide +kernel
theorem d27_14 : decode (pg_code 27) 14 = .ok (.getfield 27, 3) := by decide +kernel
theorem d27_17 : decode (pg_code 27) 17 = .ok (.iload_n 1, 1) := by decide +kernel
theorem d27_18 : decode (pg_code 27) 18 = .ok (.iconst 0, 1) := by decide +kernel
theorem d27_19 : decode (pg_code 27) 19 = .ok (.iastore, 1) := by decide +kernel
theorem d27_20 : decode (pg_code 27) 20 = .ok (.iconst 0, 1) := by decide +kernel
theorem d27_21 : decode (pg_code 27) 21 = .ok (.istore_n 2, 1) := by decide +kernel
theorem d27_22 : decode (pg_code 27) 22 = .ok (.iload_n 2, 1) := by decide +kernel
theorem d27_23 : decode (pg_code 27) 23 = .ok (.aload_n 0, 1) := by decide +kernel
theorem d27_24 : decode (pg_code 27) 24 = .ok (.getfield 39, 3) := by decide +kernel
theorem d27_27 : decode (pg_code 27) 27 = .ok (.getfield 68, 3) := by decide +kernel
theorem d27_30 : decode (pg_code 27) 30 = .ok (.if_icmp .ge 48, 3) := by decide +kernel
theorem d27_33 : decode (pg_code 27) 33 = .ok (.aload_n 0, 1) := by decide +kernel
theorem d27_34 : decode (pg_code 27) 34 = .ok (.getfield 18, 3) := by decide +kernel
theorem d27_37 : decode (pg_code 27) 37 = .ok (.iload_n 1, 1) := by decide +kernel
theorem d27_38 : decode (pg_code 27) 38 = .ok (.iaload, 1) := by decide +kernel
theorem d27_39 : decode (pg_code 27) 39 = .ok (.iconst 2, 1) := by decide +kernel
theorem d27_40 : decode (pg_code 27) 40 = .ok (.if_icmp .lt 38, 3) := by decide +kernel
theorem d27_43 : decode (pg_code 27) 43 = .ok (.aload_n 0, 1) := by decide +kernel
theorem d27_44 : decode (pg_code 27) 44 = .ok (.getfield 35, 3) := by decide +kernel
theorem d27_47 : decode (pg_code 27) 47 = .ok (.iload_n 1, 1) := by decide +kernel
theorem d27_48 : decode (pg_code 27) 48 = .ok (.aload_n 0, 1) := by decide +kernel
theorem d27_49 : decode (pg_code 27) 49 = .ok (.getfield 39, 3) := by decide +kernel
theorem d27_52 : decode (pg_code 27) 52 = .ok (.iload_n 2, 1) := by decide +kernel
theorem d27_53 : decode (pg_code 27) 53 = .ok (.iconst 0, 1) := by decide +kernel
theorem d27_54 : decode (pg_code 27) 54 = .ok (.invokestatic 72, 3) := by decide +kernel
theorem d27_57 : decode (pg_code 27) 57 = .ok (.ifCond .eq 15, 3) := by decide +kernel
theorem d27_60 : decode (pg_code 27) 60 = .ok (.aload_n 0, 1) := by decide +kernel
theorem d27_61 : decode (pg_code 27) 61 = .ok (.getfield 27, 3) := by decide +kernel
theorem d27_64 : decode (pg_code 27) 64 = .ok (.iload_n 1, 1) := by decide +kernel
theorem d27_65 : decode (pg_code 27) 65 = .ok (.dup2, 1) := by decide +kernel
theorem d27_66 : decode (pg_code 27) 66 = .ok (.iaload, 1) := by decide +kernel
theorem d27_67 : decode (pg_code 27) 67 = .ok (.iconst 1, 1) := by decide +kernel
theorem d27_68 : decode (pg_code 27) 68 = .ok (.iload_n 2, 1) := by decide +kernel
theorem d27_69 : decode (pg_code 27) 69 = .ok (.ishl, 1) := by decide +kernel
theorem d27_70 : decode (pg_code 27) 70 = .ok (.ior, 1) := by decide +kernel
theorem d27_71 : decode (pg_code 27) 71 = .ok (.iastore, 1) := by decide +kernel
theorem d27_72 : decode (pg_code 27) 72 = .ok (.iinc 2 1, 3) := by decide +kernel
theorem d27_75 : decode (pg_code 27) 75 = .ok (.goto (-53), 3) := by decide +kernel
theorem d27_78 : decode (pg_code 27) 78 = .ok (.iinc 1 1, 3) := by decide +kernel
theorem d27_81 : decode (pg_code 27) 81 = .ok (.goto (-79), 3) := by decide +kernel
theorem d27_84 : decode (pg_code 27) 84 = .ok (.return_, 1) := by decide +kernel
theorem e27 {b1 : Value} : am_Call L xs d 27 [b1] σ Q = am_Rn L xs d 27 0 [b1, .retAddr 0, .retAddr 0] [] σ Q := rfl
theorem r27_0  : am_Rn L xs d 27 0 ls st σ Q = am_Rn L xs d 27 1 ls (.int 0 :: st) σ Q := am_r_iconst d27_0 (by decide)
theorem r27_1 {x : Int32} : am_Rn L xs d 27 1 ls (.int x :: st) σ Q = (1 < ls.length ∧ am_Rn L xs d 27 2 (ls.set 1 (.int x)) st σ Q) := am_r_istore_n d27_1
theorem r27_2  : am_Rn L xs d 27 2 ls st σ Q = am_li ls 1 (fun x => am_Rn L xs d 27 3 ls (.int x :: st) σ Q) := am_r_iload_n d27_2
theorem r27_3  : am_Rn L xs d 27 3 ls st σ Q = am_la ls 0 (fun x => am_Rn L xs d 27 4 ls (x :: st) σ Q) := am_r_aload_n d27_3
theorem r27_4 {p : Nat} : am_Rn L xs d 27 4 ls (.ref p :: st) σ Q = am_fd σ p 3 6 (fun v => am_Rn L xs d 27 7 ls (v :: st) σ Q) := am_r_getfield d27_4 rfl
theorem r27_7 {p : Nat} : am_Rn L xs d 27 7 ls (.ref p :: st) σ Q = am_fd σ p 1 4 (fun v => am_Rn L xs d 27 10 ls (v :: st) σ Q) := am_r_getfield d27_7 rfl
theorem r27_10 {a b : Int32} : am_Rn L xs d 27 10 ls (.int b :: .int a :: st) σ Q = if b ≤ a then am_Rn L xs d 27 84 ls st σ Q else am_Rn L xs d 27 13 ls st σ Q := (am_r_icmp (t := 84) d27_10 (by decide)).trans (am_ite _ _ trivial (by simp only [am_cond, decide_eq_true_eq]))
theorem r27_13  : am_Rn L xs d 27 13 ls st σ Q = am_la ls 0 (fun x => am_Rn L xs d 27 14 ls (x :: st) σ Q) := am_r_aload_n d27_13
theorem r27_14 {p : Nat} : am_Rn L xs d 27 14 ls (.ref p :: st) σ Q = am_fd σ p 3 5 (fun v => am_Rn L xs d 27 17 ls (v :: st) σ Q) := am_r_getfield d27_14 rfl
theorem r27_17  : am_Rn L xs d 27 17 ls st σ Q = am_li ls 1 (fun x => am_Rn L xs d 27 18 ls (.int x :: st) σ Q) := am_r_iload_n d27_17
theorem r27_18  : am_Rn L xs d 27 18 ls st σ Q = am_Rn L xs d 27 19 ls (.int 0 :: st) σ Q := am_r_iconst d27_18 (by decide)
theorem r27_19 {p : Nat} {i x : Int32} : am_Rn L xs d 27 19 ls (.int x :: .int i :: .ref p :: st) σ Q = am_wi 0 σ p i x (fun σ1 => am_Rn L xs d 27 20 ls st σ1 Q) := am_r_iastore d27_19
theorem r27_20  : am_Rn L xs d 27 20 ls st σ Q = am_Rn L xs d 27 21 ls (.int 0 :: st) σ Q := am_r_iconst d27_20 (by decide)
theorem r27_21 {x : Int32} : am_Rn L xs d 27 21 ls (.int x :: st) σ Q = (2 < ls.length ∧ am_Rn L xs d 27 22 (ls.set 2 (.int x)) st σ Q) := am_r_istore_n d27_21
theorem r27_22  : am_Rn L xs d 27 22 ls st σ Q = am_li ls 2 (fun x => am_Rn L xs d 27 23 ls (.int x :: st) σ Q) := am_r_iload_n d27_22
theorem r27_23  : am_Rn L xs d 27 23 ls st σ Q = am_la ls 0 (fun x => am_Rn L xs d 27 24 ls (x :: st) σ Q) := am_r_aload_n d27_23
theorem r27_24 {p : Nat} : am_Rn L xs d 27 24 ls (.ref p :: st) σ Q = am_fd σ p 3 7 (fun v => am_Rn L xs d 27 27 ls (v :: st) σ Q) := am_r_getfield d27_24 rfl
theorem r27_27 {p : Nat} : am_Rn L xs d 27 27 ls (.ref p :: st) σ Q = am_fd σ p 1 4 (fun v => am_Rn L xs d 27 30 ls (v :: st) σ Q) := am_r_getfield d27_27 rfl
theorem r27_30 {a b : Int32} : am_Rn L xs d 27 30 ls (.int b :: .int a :: st) σ Q = if b ≤ a then am_Rn L xs d 27 78 ls st σ Q else am_Rn L xs d 27 33 ls st σ Q := (am_r_icmp (t := 78) d27_30 (by decide)).trans (am_ite _ _ trivial (by simp only [am_cond, decide_eq_true_eq]))
theorem r27_33  : am_Rn L xs d 27 33 ls st σ Q = am_la ls 0 (fun x => am_Rn L xs d 27 34 ls (x :: st) σ Q) := am_r_aload_n d27_33
theorem r27_34 {p : Nat} : am_Rn L xs d 27 34 ls (.ref p :: st) σ Q = am_fd σ p 3 2 (fun v => am_Rn L xs d 27 37 ls (v :: st) σ Q) := am_r_getfield d27_34 rfl
theorem r27_37  : am_Rn L xs d 27 37 ls st σ Q = am_li ls 1 (fun x => am_Rn L xs d 27 38 ls (.int x :: st) σ Q) := am_r_iload_n d27_37
theorem r27_38 {p : Nat} {i : Int32} : am_Rn L xs d 27 38 ls (.int i :: .ref p :: st) σ Q = am_ai 0 σ p i (fun x => am_Rn L xs d 27 39 ls (.int x :: st) σ Q) := am_r_iaload d27_38
theorem r27_39  : am_Rn L xs d 27 39 ls st σ Q = am_Rn L xs d 27 40 ls (.int 2 :: st) σ Q := am_r_iconst d27_39 (by decide)
theorem r27_40 {a b : Int32} : am_Rn L xs d 27 40 ls (.int b :: .int a :: st) σ Q = if a < b then am_Rn L xs d 27 78 ls st σ Q else am_Rn L xs d 27 43 ls st σ Q := (am_r_icmp (t := 78) d27_40 (by decide)).trans (am_ite _ _ trivial (by simp only [am_cond, decide_eq_true_eq]))
theorem r27_43  : am_Rn L xs d 27 43 ls st σ Q = am_la ls 0 (fun x => am_Rn L xs d 27 44 ls (x :: st) σ Q) := am_r_aload_n d27_43
theorem r27_44 {p : Nat} : am_Rn L xs d 27 44 ls (.ref p :: st) σ Q = am_fd σ p 3 6 (fun v => am_Rn L xs d 27 47 ls (v :: st) σ Q) := am_r_getfield d27_44 rfl
theorem r27_47  : am_Rn L xs d 27 47 ls st σ Q = am_li ls 1 (fun x => am_Rn L xs d 27 48 ls (.int x :: st) σ Q) := am_r_iload_n d27_47
theorem r27_48  : am_Rn L xs d 27 48 ls st σ Q = am_la ls 0 (fun x => am_Rn L xs d 27 49 ls (x :: st) σ Q) := am_r_aload_n d27_48
theorem r27_49 {p : Nat} : am_Rn L xs d 27 49 ls (.ref p :: st) σ Q = am_fd σ p 3 7 (fun v => am_Rn L xs d 27 52 ls (v :: st) σ Q) := am_r_getfield d27_49 rfl
theorem r27_52  : am_Rn L xs d 27 52 ls st σ Q = am_li ls 2 (fun x => am_Rn L xs d 27 53 ls (.int x :: st) σ Q) := am_r_iload_n d27_52
theorem r27_53  : am_Rn L xs d 27 53 ls st σ Q = am_Rn L xs d 27 54 ls (.int 0 :: st) σ Q := am_r_iconst d27_53 (by decide)
theorem r27_54 {a1 a2 a3 a4 a5 : Value} : am_Rn L xs (d + 1) 27 54 ls (a5 :: a4 :: a3 :: a2 :: a1 :: st) σ Q = ((st.length ≤ 4 ∧ am_ok a1 = true ∧ am_ok a2 = true ∧ am_ok a3 = true ∧ am_ok a4 = true ∧ am_ok a5 = true) ∧ am_Call L xs d 20 [a1, a2, a3, a4, a5] σ (fun r σ1 => am_Rn L xs (d + 1) 27 57 ls (r.toList ++ st) σ1 Q)) := am_R_static5 d27_54 rfl ⟨by decide, rfl⟩ rfl (by decide)
theorem r27_57 {a : Int32} : am_Rn L xs d 27 57 ls (.int a :: st) σ Q = if a = 0 then am_Rn L xs d 27 72 ls st σ Q else am_Rn L xs d 27 60 ls st σ Q := (am_r_if (t := 72) d27_57 (by decide)).trans (am_ite _ _ trivial (by simp only [am_cond, decide_eq_true_eq]))
theorem r27_60  : am_Rn L xs d 27 60 ls st σ Q = am_la ls 0 (fun x => am_Rn L xs d 27 61 ls (x :: st) σ Q) := am_r_aload_n d27_60
theorem r27_61 {p : Nat} : am_Rn L xs d 27 61 ls (.ref p :: st) σ Q = am_fd σ p 3 5 (fun v => am_Rn L xs d 27 64 ls (v :: st) σ Q) := am_r_getfield d27_61 rfl
theorem r27_64  : am_Rn L xs d 27 64 ls st σ Q = am_li ls 1 (fun x => am_Rn L xs d 27 65 ls (.int x :: st) σ Q) := am_r_iload_n d27_64
theorem r27_65 {a b : Value} : am_Rn L xs d 27 65 ls (a :: b :: st) σ Q = ((am_ok a && am_ok b) = true ∧ am_Rn L xs d 27 66 ls (a :: b :: a :: b :: st) σ Q) := am_r_dup2 d27_65
theorem r27_66 {p : Nat} {i : Int32} : am_Rn L xs d 27 66 ls (.int i :: .ref p :: st) σ Q = am_ai 0 σ p i (fun x => am_Rn L xs d 27 67 ls (.int x :: st) σ Q) := am_r_iaload d27_66
theorem r27_67  : am_Rn L xs d 27 67 ls st σ Q = am_Rn L xs d 27 68 ls (.int 1 :: st) σ Q := am_r_iconst d27_67 (by decide)
theorem r27_68  : am_Rn L xs d 27 68 ls st σ Q = am_li ls 2 (fun x => am_Rn L xs d 27 69 ls (.int x :: st) σ Q) := am_r_iload_n d27_68
theorem r27_69 {a b : Int32} : am_Rn L xs d 27 69 ls (.int b :: .int a :: st) σ Q = am_Rn L xs d 27 70 ls (.int (a <<< (b &&& 31)) :: st) σ Q := am_r_ishl d27_69
theorem r27_70 {a b : Int32} : am_Rn L xs d 27 70 ls (.int b :: .int a :: st) σ Q = am_Rn L xs d 27 71 ls (.int (a ||| b) :: st) σ Q := am_r_ior d27_70
theorem r27_71 {p : Nat} {i x : Int32} : am_Rn L xs d 27 71 ls (.int x :: .int i :: .ref p :: st) σ Q = am_wi 0 σ p i x (fun σ1 => am_Rn L xs d 27 72 ls st σ1 Q) := am_r_iastore d27_71
theorem r27_72  : am_Rn L xs d 27 72 ls st σ Q = am_li ls 2 (fun x => am_Rn L xs d 27 75 (ls.set 2 (.int (x + 1))) st σ Q) := am_r_iinc d27_72 (by decide)
theorem r27_75  : am_Rn L xs d 27 75 ls st σ Q = am_Rn L xs d 27 22 ls st σ Q := am_r_goto d27_75 (by decide)
theorem r27_78  : am_Rn L xs d 27 78 ls st σ Q = am_li ls 1 (fun x => am_Rn L xs d 27 81 (ls.set 1 (.int (x + 1))) st σ Q) := am_r_iinc d27_78 (by decide)
theorem r27_81  : am_Rn L xs d 27 81 ls st σ Q = am_Rn L xs d 27 2 ls st σ Q := am_r_goto d27_81 (by decide)
theorem r27_84  : am_Rn L xs d 27 84 ls [] σ Q = Q none σ := am_r_return d27_84 rfl
theorem d28_0 : decode (pg_code 28) 0 = .ok (.iconst (-1), 1) := by decide +kernel
theorem d28_1 : decode (pg_code 28) 1 = .ok (.istore_n 1, 1) := by decide +kernel
theorem d28_2 : decode (pg_code 28) 2 = .ok (.iconst (-1), 1) := by decide +kernel
theorem d28_3 : decode (pg_code 28) 3 = .ok (.istore_n 2, 1) := by decide +kernel
theorem d28_4 : decode (pg_code 28) 4 = .ok (.iconst 0, 1) := by decide +kernel
theorem d28_5 : decode (pg_code 28) 5 = .ok (.istore_n 3, 1) := by decide +kernel
theorem d28_6 : decode (pg_code 28) 6 = .ok (.iconst 0, 1) := by decide +kernel
theorem d28_7 : decode (pg_code 28) 7 = .ok (.istore 4, 2) := by decide +kernel
theorem d28_9 : decode (pg_code 28) 9 = .ok (.iconst 0, 1) := by decide +kernel
theorem d28_10 : decode (pg_code 28) 10 = .ok (.istore 5, 2) := by decide +kernel
theorem d28_12 : decode (pg_code 28) 12 = .ok (.iload 5, 2) := by decide +kernel
theorem d28_14 : decode (pg_code 28) 14 = .ok (.aload_n 0, 1) := by decide +kernel
theorem d28_15 : decode (pg_code 28) 15 = .ok (.getfield 35, 3) := by decide +kernel
theorem d28_18 : decode (pg_code 28) 18 = .ok (.getfield 68, 3) := by decide +kernel
theorem d28_21 : decode (pg_code 28) 21 = .ok (.if_icmp .ge 101, 3) := by decide +kernel
theorem d28_24 : decode (pg_code 28) 24 = .ok (.iconst 0, 1) := by decide +kernel
theorem d28_25 : decode (pg_code 28) 25 = .ok (.istore 6, 2) := by decide +kernel
theorem d28_27 : decode (pg_code 28) 27 = .ok (.iload 6, 2) := by decide +kernel
theorem d28_29 : decode (pg_code 28) 29 = .ok (.aload_n 0, 1) := by decide +kernel
theorem d28_30 : decode (pg_code 28) 30 = .ok (.getfield 39, 3) := by decide +kernel
theorem d28_33 : decode (pg_code 28) 33 = .ok (.getfield 68, 3) := by decide +kernel
theorem d28_36 : decode (pg_code 28) 36 = .ok (.if_icmp .ge 80, 3) := by decide +kernel
theorem d28_39 : decode (pg_code 28) 39 = .ok (.aload_n 0, 1) := by decide +kernel
theorem d28_40 : decode (pg_code 28) 40 = .ok (.iload 5, 2) := by decide +kernel
theorem d28_42 : decode (pg_code 28) 42 = .ok (.iload 6, 2) := by decide +kernel
theorem d28_44 : decode (pg_code 28) 44 = .ok (.invokevirtual 76, 3) := by decide +kernel
theorem d28_47 : decode (pg_code 28) 47 = .ok (.ifCond .eq 63, 3) := by decide +kernel
theorem d28_50 : decode (pg_code 28) 50 = .ok (.aload_n 0, 1) := by decide +kernel
theorem d28_51 : decode (pg_code 28) 51 = .ok (.getfield 18, 3) := by decide +kernel
theorem d28_54 : decode (pg_code 28) 54 = .ok (.iload 5, 2) := by decide +kernel
theorem d28_56 : decode (pg_code 28) 56 = .ok (.iaload, 1) := by decide +kernel
theorem d28_57 : decode (pg_code 28) 57 = .ok (.iload_n 3, 1) := by decide +kernel
theorem d28_58 : decode (pg_code 28) 58 = .ok (.if_icmp .ge 6, 3) := by decide +kernel
theorem d28_61 : decode (pg_code 28) 61 = .ok (.goto 49, 3) := by decide +kernel
theorem d28_64 : decode (pg_code 28) 64 = .ok (.aload_n 0, 1) := by decide +kernel
theorem d28_65 : decode (pg_code 28) 65 = .ok (.iload 5, 2) := by decide +kernel
theorem d28_67 : decode (pg_code 28) 67 = .ok (.iload 6, 2) := by decide +kernel
theorem d28_69 : decode (pg_code 28) 69 = .ok (.invokevirtual 80, 3) := by decide +kernel
theorem d28_72 : decode (pg_code 28) 72 = .ok (.istore 7, 2) := by decide +kernel
theorem d28_74 : decode (pg_code 28) 74 = .ok (.aload_n 0, 1) := by decide +kernel
theorem d28_75 : decode (pg_code 28) 75 = .ok (.getfield 18, 3) := by decide +kernel
theorem d28_78 : decode (pg_code 28) 78 = .ok (.iload 5, 2) := by decide +kernel
theorem d28_80 : decode (pg_code 28) 80 = .ok (.iaload, 1) := by decide +kernel
theorem d28_81 : decode (pg_code 28) 81 = .ok (.iload_n 3, 1) := by decide +kernel
theorem d28_82 : decode (pg_code 28) 82 = .ok (.if_icmp .gt 10, 3) := by decide +kernel
theorem d28_85 : decode (pg_code 28) 85 = .ok (.iload 7, 2) := by decide +kernel
theorem d28_87 : decode (pg_code 28) 87 = .ok (.iload 4, 2) := by decide +kernel
theorem d28_89 : decode (pg_code 28) 89 = .ok (.if_icmp .le 21, 3) := by decide +kernel
theorem d28_92 : decode (pg_code 28) 92 = .ok (.iload 5, 2) := by decide +kernel
theorem d28_94 : decode (pg_code 28) 94 = .ok (.istore_n 1, 1) := by decide +kernel
theorem d28_95 : decode (pg_code 28) 95 = .ok (.iload 6, 2) := by decide +kernel
theorem d28_97 : decode (pg_code 28) 97 = .ok (.istore_n 2, 1) := by decide +kernel
theorem d28_98 : decode (pg_code 28) 98 = .ok (.aload_n 0, 1) := by decide +kernel
theorem d28_99 : decode (pg_code 28) 99 = .ok (.getfield 18, 3) := by decide +kernel
theorem d28_102 : decode (pg_code 28) 102 = .ok (.iload 5, 2) := by decide +kernel
theorem d28_104 : decode (pg_code 28) 104 = .ok (.iaload, 1) := by decide +kernel
theorem d28_105 : decode (pg_code 28) 105 = .ok (.istore_n 3, 1) := by decide +kernel
theorem d28_106 : decode (pg_code 28) 106 = .ok (.iload 7, 2) := by decide +kernel
theorem d28_108 : decode (pg_code 28) 108 = .ok (.istore 4, 2) := by decide +kernel
theorem d28_110 : decode (pg_code 28) 110 = .ok (.iinc 6 1, 3) := by decide +kernel
theorem d28_113 : decode (pg_code 28) 113 = .ok (.goto (-86), 3) := by decide +kernel
theorem d28_116 : decode (pg_code 28) 116 = .ok (.iinc 5 1, 3) := by decide +kernel
theorem d28_119 : decode (pg_code 28) 119 = .ok (.goto (-107), 3) := by decide +kernel
theorem d28_122 : decode (pg_code 28) 122 = .ok (.iload_n 1, 1) := by decide +kernel
theorem d28_123 : decode (pg_code 28) 123 = .ok (.iconst (-1), 1) := by decide +kernel
theorem d28_124 : decode (pg_code 28) 124 = .ok (.if_icmp .eq 10, 3) := by decide +kernel
theorem d28_127 : decode (pg_code 28) 127 = .ok (.aload_n 0, 1) := by decide +kernel
theorem d28_128 : decode (pg_code 28) 128 = .ok (.iload_n 1, 1) := by decide +kernel
theorem d28_129 : decode (pg_code 28) 129 = .ok (.iload_n 2, 1) := by decide +kernel
theorem d28_130 : decode (pg_code 28) 130 = .ok (.iconst 0, 1) := by decide +kernel
theorem d28_131 : decode (pg_code 28) 131 = .ok (.invokevirtual 84, 3) := by decide +kernel
theorem d28_134 : decode (pg_code 28) 134 = .ok (.iload_n 1, 1) := by decide +kernel
theorem d28_135 : decode (pg_code 28) 135 = .ok (.iconst (-1), 1) := by decide +kernel
theorem d28_136 : decode (pg_code 28) 136 = .ok (.if_icmp .eq 7, 3) := by decide +kernel
theorem d28_139 : decode (pg_code 28) 139 = .ok (.iconst 1, 1) := by decide +kernel
theorem d28_140 : decode (pg_code 28) 140 = .ok (.goto 4, 3) := by decide +kernel
theorem d28_143 : decode (pg_code 28) 143 = .ok (.iconst 0, 1) := by decide +kernel
theorem d28_144 : decode (pg_code 28) 144 = .ok (.ireturn, 1) := by decide +kernel
theorem e28 {b1 : Value} : am_Call L xs d 28 [b1] σ Q = am_Rn L xs d 28 0 [b1, .retAddr 0, .retAddr 0, .retAddr 0, .retAddr 0, .retAddr 0, .retAddr 0, .retAddr 0] [] σ Q := rfl
theorem r28_0  : am_Rn L xs d 28 0 ls st σ Q = am_Rn L xs d 28 1 ls (.int (-1) :: st) σ Q := am_r_iconst d28_0 (by decide)
theorem r28_1 {x : Int32} : am_Rn L xs d 28 1 ls (.int x :: st) σ Q = (1 < ls.length ∧ am_Rn L xs d 28 2 (ls.set 1 (.int x)) st σ Q) := am_r_istore_n d28_1
theorem r28_2  : am_Rn L xs d 28 2 ls st σ Q = am_Rn L xs d 28 3 ls (.int (-1) :: st) σ Q := am_r_iconst d28_2 (by decide)
theorem r28_3 {x : Int32} : am_Rn L xs d 28 3 ls (.int x :: st) σ Q = (2 < ls.length ∧ am_Rn L xs d 28 4 (ls.set 2 (.int x)) st σ Q) := am_r_istore_n d28_3
theorem r28_4  : am_Rn L xs d 28 4 ls st σ Q = am_Rn L xs d 28 5 ls (.int 0 :: st) σ Q := am_r_iconst d28_4 (by decide)
theorem r28_5 {x : Int32} : am_Rn L xs d 28 5 ls (.int x :: st) σ Q = (3 < ls.length ∧ am_Rn L xs d 28 6 (ls.set 3 (.int x)) st σ Q) := am_r_istore_n d28_5
theorem r28_6  : am_Rn L xs d 28 6 ls st σ Q = am_Rn L xs d 28 7 ls (.int 0 :: st) σ Q := am_r_iconst d28_6 (by decide)
theorem r28_7 {x : Int32} : am_Rn L xs d 28 7 ls (.int x :: st) σ Q = (4 < ls.length ∧ am_Rn L xs d 28 9 (ls.set 4 (.int x)) st σ Q) := am_r_istore d28_7
theorem r28_9  : am_Rn L xs d 28 9 ls st σ Q = am_Rn L xs d 28 10 ls (.int 0 :: st) σ Q := am_r_iconst d28_9 (by decide)
theorem r28_10 {x : Int32} : am_Rn L xs d 28 10 ls (.int x :: st) σ Q = (5 < ls.length ∧ am_Rn L xs d 28 12 (ls.set 5 (.int x)) st σ Q) := am_r_istore d28_10
theorem r28_12  : am_Rn L xs d 28 12 ls st σ Q = am_li ls 5 (fun x => am_Rn L xs d 28 14 ls (.int x :: st) σ Q) := am_r_iload d28_12
theorem r28_14  : am_Rn L xs d 28 14 ls st σ Q = am_la ls 0 (fun x => am_Rn L xs d 28 15 ls (x :: st) σ Q) := am_r_aload_n d28_14
theorem r28_15 {p : Nat} : am_Rn L xs d 28 15 ls (.ref p :: st) σ Q = am_fd σ p 3 6 (fun v => am_Rn L xs d 28 18 ls (v :: st) σ Q) := am_r_getfield d28_15 rfl
theorem r28_18 {p : Nat} : am_Rn L xs d 28 18 ls (.ref p :: st) σ Q = am_fd σ p 1 4 (fun v => am_Rn L xs d 28 21 ls (v :: st) σ Q) := am_r_getfield d28_18 rfl
theorem r28_21 {a b : Int32} : am_Rn L xs d 28 21 ls (.int b :: .int a :: st) σ Q = if b ≤ a then am_Rn L xs d 28 122 ls st σ Q else am_Rn L xs d 28 24 ls st σ Q := (am_r_icmp (t := 122) d28_21 (by decide)).trans (am_ite _ _ trivial (by simp only [am_cond, decide_eq_true_eq]))
theorem r28_24  : am_Rn L xs d 28 24 ls st σ Q = am_Rn L xs d 28 25 ls (.int 0 :: st) σ Q := am_r_iconst d28_24 (by decide)
theorem r28_25 {x : Int32} : am_Rn L xs d 28 25 ls (.int x :: st) σ Q = (6 < ls.length ∧ am_Rn L xs d 28 27 (ls.set 6 (.int x)) st σ Q) := am_r_istore d28_25
theorem r28_27  : am_Rn L xs d 28 27 ls st σ Q = am_li ls 6 (fun x => am_Rn L xs d 28 29 ls (.int x :: st) σ Q) := am_r_iload d28_27
theorem r28_29  : am_Rn L xs d 28 29 ls st σ Q = am_la ls 0 (fun x => am_Rn L xs d 28 30 ls (x :: st) σ Q) := am_r_aload_n d28_29
theorem r28_30 {p : Nat} : am_Rn L xs d 28 30 ls (.ref p :: st) σ Q = am_fd σ p 3 7 (fun v => am_Rn L xs d 28 33 ls (v :: st) σ Q) := am_r_getfield d28_30 rfl
theorem r28_33 {p : Nat} : am_Rn L xs d 28 33 ls (.ref p :: st) σ Q = am_fd σ p 1 4 (fun v => am_Rn L xs d 28 36 ls (v :: st) σ Q) := am_r_getfield d28_33 rfl
theorem r28_36 {a b : Int32} : am_Rn L xs d 28 36 ls (.int b :: .int a :: st) σ Q = if b ≤ a then am_Rn L xs d 28 116 ls st σ Q else am_Rn L xs d 28 39 ls st σ Q := (am_r_icmp (t := 116) d28_36 (by decide)).trans (am_ite _ _ trivial (by simp only [am_cond, decide_eq_true_eq]))
theorem r28_39  : am_Rn L xs d 28 39 ls st σ Q = am_la ls 0 (fun x => am_Rn L xs d 28 40 ls (x :: st) σ Q) := am_r_aload_n d28_39
theorem r28_40  : am_Rn L xs d 28 40 ls st σ Q = am_li ls 5 (fun x => am_Rn L xs d 28 42 ls (.int x :: st) σ Q) := am_r_iload d28_40
theorem r28_42  : am_Rn L xs d 28 42 ls st σ Q = am_li ls 6 (fun x => am_Rn L xs d 28 44 ls (.int x :: st) σ Q) := am_r_iload d28_42
theorem r28_44 {a1 a2 : Value} {p : Nat} : am_Rn L xs (d + 1) 28 44 ls (a2 :: a1 :: .ref p :: st) σ Q = ((am_oc σ p = 3 ∧ st.length ≤ 4 ∧ am_ok a1 = true ∧ am_ok a2 = true) ∧ am_Call L xs d 29 [.ref p, a1, a2] σ (fun r σ1 => am_Rn L xs (d + 1) 28 47 ls (r.toList ++ st) σ1 Q)) := am_R_virtual2 d28_44 rfl ⟨by decide, rfl⟩ rfl rfl (by decide)
theorem r28_47 {a : Int32} : am_Rn L xs d 28 47 ls (.int a :: st) σ Q = if a = 0 then am_Rn L xs d 28 110 ls st σ Q else am_Rn L xs d 28 50 ls st σ Q := (am_r_if (t := 110) d28_47 (by decide)).trans (am_ite _ _ trivial (by simp only [am_cond, decide_eq_true_eq]))
theorem r28_50  : am_Rn L xs d 28 50 ls st σ Q = am_la ls 0 (fun x => am_Rn L xs d 28 51 ls (x :: st) σ Q) := am_r_aload_n d28_50
theorem r28_51 {p : Nat} : am_Rn L xs d 28 51 ls (.ref p :: st) σ Q = am_fd σ p 3 2 (fun v => am_Rn L xs d 28 54 ls (v :: st) σ Q) := am_r_getfield d28_51 rfl
theorem r28_54  : am_Rn L xs d 28 54 ls st σ Q = am_li ls 5 (fun x => am_Rn L xs d 28 56 ls (.int x :: st) σ Q) := am_r_iload d28_54
theorem r28_56 {p : Nat} {i : Int32} : am_Rn L xs d 28 56 ls (.int i :: .ref p :: st) σ Q = am_ai 0 σ p i (fun x => am_Rn L xs d 28 57 ls (.int x :: st) σ Q) := am_r_iaload d28_56
theorem r28_57  : am_Rn L xs d 28 57 ls st σ Q = am_li ls 3 (fun x => am_Rn L xs d 28 58 ls (.int x :: st) σ Q) := am_r_iload_n d28_57
theorem r28_58 {a b : Int32} : am_Rn L xs d 28 58 ls (.int b :: .int a :: st) σ Q = if b ≤ a then am_Rn L xs d 28 64 ls st σ Q else am_Rn L xs d 28 61 ls st σ Q := (am_r_icmp (t := 64) d28_58 (by decide)).trans (am_ite _ _ trivial (by simp only [am_cond, decide_eq_true_eq]))
theorem r28_61  : am_Rn L xs d 28 61 ls st σ Q = am_Rn L xs d 28 110 ls st σ Q := am_r_goto d28_61 (by decide)
theorem r28_64  : am_Rn L xs d 28 64 ls st σ Q = am_la ls 0 (fun x => am_Rn L xs d 28 65 ls (x :: st) σ Q) := am_r_aload_n d28_64
theorem r28_65  : am_Rn L xs d 28 65 ls st σ Q = am_li ls 5 (fun x => am_Rn L xs d 28 67 ls (.int x :: st) σ Q) := am_r_iload d28_65
theorem r28_67  : am_Rn L xs d 28 67 ls st σ Q = am_li ls 6 (fun x => am_Rn L xs d 28 69 ls (.int x :: st) σ Q) := am_r_iload d28_67
theorem r28_69 {a1 a2 : Value} {p : Nat} : am_Rn L xs (d + 1) 28 69 ls (a2 :: a1 :: .ref p :: st) σ Q = ((am_oc σ p = 3 ∧ st.length ≤ 4 ∧ am_ok a1 = true ∧ am_ok a2 = true) ∧ am_Call L xs d 30 [.ref p, a1, a2] σ (fun r σ1 => am_Rn L xs (d + 1) 28 72 ls (r.toList ++ st) σ1 Q)) := am_R_virtual2 d28_69 rfl ⟨by decide, rfl⟩ rfl rfl (by decide)
theorem r28_72 {x : Int32} : am_Rn L xs d 28 72 ls (.int x :: st) σ Q = (7 < ls.length ∧ am_Rn L xs d 28 74 (ls.set 7 (.int x)) st σ Q) := am_r_istore d28_72
theorem r28_74  : am_Rn L xs d 28 74 ls st σ Q = am_la ls 0 (fun x => am_Rn L xs d 28 75 ls (x :: st) σ Q) := am_r_aload_n d28_74
theorem r28_75 {p : Nat} : am_Rn L xs d 28 75 ls (.ref p :: st) σ Q = am_fd σ p 3 2 (fun v => am_Rn L xs d 28 78 ls (v :: st) σ Q) := am_r_getfield d28_75 rfl
theorem r28_78  : am_Rn L xs d 28 78 ls st σ Q = am_li ls 5 (fun x => am_Rn L xs d 28 80 ls (.int x :: st) σ Q) := am_r_iload d28_78
theorem r28_80 {p : Nat} {i : Int32} : am_Rn L xs d 28 80 ls (.int i :: .ref p :: st) σ Q = am_ai 0 σ p i (fun x => am_Rn L xs d 28 81 ls (.int x :: st) σ Q) := am_r_iaload d28_80
theorem r28_81  : am_Rn L xs d 28 81 ls st σ Q = am_li ls 3 (fun x => am_Rn L xs d 28 82 ls (.int x :: st) σ Q) := am_r_iload_n d28_81
theorem r28_82 {a b : Int32} : am_Rn L xs d 28 82 ls (.int b :: .int a :: st) σ Q = if b < a then am_Rn L xs d 28 92 ls st σ Q else am_Rn L xs d 28 85 ls st σ Q := (am_r_icmp (t := 92) d28_82 (by decide)).trans (am_ite _ _ trivial (by simp only [am_cond, decide_eq_true_eq]))
theorem r28_85  : am_Rn L xs d 28 85 ls st σ Q = am_li ls 7 (fun x => am_Rn L xs d 28 87 ls (.int x :: st) σ Q) := am_r_iload d28_85
theorem r28_87  : am_Rn L xs d 28 87 ls st σ Q = am_li ls 4 (fun x => am_Rn L xs d 28 89 ls (.int x :: st) σ Q) := am_r_iload d28_87
theorem r28_89 {a b : Int32} : am_Rn L xs d 28 89 ls (.int b :: .int a :: st) σ Q = if a ≤ b then am_Rn L xs d 28 110 ls st σ Q else am_Rn L xs d 28 92 ls st σ Q := (am_r_icmp (t := 110) d28_89 (by decide)).trans (am_ite _ _ trivial (by simp only [am_cond, decide_eq_true_eq]))
theorem r28_92  : am_Rn L xs d 28 92 ls st σ Q = am_li ls 5 (fun x => am_Rn L xs d 28 94 ls (.int x :: st) σ Q) := am_r_iload d28_92
theorem r28_94 {x : Int32} : am_Rn L xs d 28 94 ls (.int x :: st) σ Q = (1 < ls.length ∧ am_Rn L xs d 28 95 (ls.set 1 (.int x)) st σ Q) := am_r_istore_n d28_94
theorem r28_95  : am_Rn L xs d 28 95 ls st σ Q = am_li ls 6 (fun x => am_Rn L xs d 28 97 ls (.int x :: st) σ Q) := am_r_iload d28_95
theorem r28_97 {x : Int32} : am_Rn L xs d 28 97 ls (.int x :: st) σ Q = (2 < ls.length ∧ am_Rn L xs d 28 98 (ls.set 2 (.int x)) st σ Q) := am_r_istore_n d28_97
theorem r28_98  : am_Rn L xs d 28 98 ls st σ Q = am_la ls 0 (fun x => am_Rn L xs d 28 99 ls (x :: st) σ Q) := am_r_aload_n d28_98
theorem r28_99 {p : Nat} : am_Rn L xs d 28 99 ls (.ref p :: st) σ Q = am_fd σ p 3 2 (fun v => am_Rn L xs d 28 102 ls (v :: st) σ Q) := am_r_getfield d28_99 rfl
theorem r28_102  : am_Rn L xs d 28 102 ls st σ Q = am_li ls 5 (fun x => am_Rn L xs d 28 104 ls (.int x :: st) σ Q) := am_r_iload d28_102
theorem r28_104 {p : Nat} {i : Int32} : am_Rn L xs d 28 104 ls (.int i :: .ref p :: st) σ Q = am_ai 0 σ p i (fun x => am_Rn L xs d 28 105 ls (.int x :: st) σ Q) := am_r_iaload d28_104
theorem r28_105 {x : Int32} : am_Rn L xs d 28 105 ls (.int x :: st) σ Q = (3 < ls.length ∧ am_Rn L xs d 28 106 (ls.set 3 (.int x)) st σ Q) := am_r_istore_n d28_105
theorem r28_106  : am_Rn L xs d 28 106 ls st σ Q = am_li ls 7 (fun x => am_Rn L xs d 28 108 ls (.int x :: st) σ Q) := am_r_iload d28_106
theorem r28_108 {x : Int32} : am_Rn L xs d 28 108 ls (.int x :: st) σ Q = (4 < ls.length ∧ am_Rn L xs d 28 110 (ls.set 4 (.int x)) st σ Q) := am_r_istore d28_108
theorem r28_110  : am_Rn L xs d 28 110 ls st σ Q = am_li ls 6 (fun x => am_Rn L xs d 28 113 (ls.set 6 (.int (x + 1))) st σ Q) := am_r_iinc d28_110 (by decide)
theorem r28_113  : am_Rn L xs d 28 113 ls st σ Q = am_Rn L xs d 28 27 ls st σ Q := am_r_goto d28_113 (by decide)
theorem r28_116  : am_Rn L xs d 28 116 ls st σ Q = am_li ls 5 (fun x => am_Rn L xs d 28 119 (ls.set 5 (.int (x + 1))) st σ Q) := am_r_iinc d28_116 (by decide)
theorem r28_119  : am_Rn L xs d 28 119 ls st σ Q = am_Rn L xs d 28 12 ls st σ Q := am_r_goto d28_119 (by decide)
theorem r28_122  : am_Rn L xs d 28 122 ls st σ Q = am_li ls 1 (fun x => am_Rn L xs d 28 123 ls (.int x :: st) σ Q) := am_r_iload_n d28_122
theorem r28_123  : am_Rn L xs d 28 123 ls st σ Q = am_Rn L xs d 28 124 ls (.int (-1) :: st) σ Q := am_r_iconst d28_123 (by decide)
theorem r28_124 {a b : Int32} : am_Rn L xs d 28 124 ls (.int b :: .int a :: st) σ Q = if a = b then am_Rn L xs d 28 134 ls st σ Q else am_Rn L xs d 28 127 ls st σ Q := (am_r_icmp (t := 134) d28_124 (by decide)).trans (am_ite _ _ trivial (by simp only [am_cond, decide_eq_true_eq]))
theorem r28_127  : am_Rn L xs d 28 127 ls st σ Q = am_la ls 0 (fun x => am_Rn L xs d 28 128 ls (x :: st) σ Q) := am_r_aload_n d28_127
theorem r28_128  : am_Rn L xs d 28 128 ls st σ Q = am_li ls 1 (fun x => am_Rn L xs d 28 129 ls (.int x :: st) σ Q) := am_r_iload_n d28_128
theorem r28_129  : am_Rn L xs d 28 129 ls st σ Q = am_li ls 2 (fun x => am_Rn L xs d 28 130 ls (.int x :: st) σ Q) := am_r_iload_n d28_129
theorem r28_130  : am_Rn L xs d 28 130 ls st σ Q = am_Rn L xs d 28 131 ls (.int 0 :: st) σ Q := am_r_iconst d28_130 (by decide)
theorem r28_131 {a1 a2 a3 : Value} {p : Nat} : am_Rn L xs (d + 1) 28 131 ls (a3 :: a2 :: a1 :: .ref p :: st) σ Q = ((am_oc σ p = 3 ∧ st.length ≤ 4 ∧ am_ok a1 = true ∧ am_ok a2 = true ∧ am_ok a3 = true) ∧ am_Call L xs d 32 [.ref p, a1, a2, a3] σ (fun r σ1 => am_Rn L xs (d + 1) 28 134 ls (r.toList ++ st) σ1 Q)) := am_R_virtual3 d28_131 rfl ⟨by decide, rfl⟩ rfl rfl (by decide)
theorem r28_134  : am_Rn L xs d 28 134 ls st σ Q = am_li ls 1 (fun x => am_Rn L xs d 28 135 ls (.int x :: st) σ Q) := am_r_iload_n d28_134
theorem r28_135  : am_Rn L xs d 28 135 ls st σ Q = am_Rn L xs d 28 136 ls (.int (-1) :: st) σ Q := am_r_iconst d28_135 (by decide)
theorem r28_136 {a b : Int32} : am_Rn L xs d 28 136 ls (.int b :: .int a :: st) σ Q = if a = b then am_Rn L xs d 28 143 ls st σ Q else am_Rn L xs d 28 139 ls st σ Q := (am_r_icmp (t := 143) d28_136 (by decide)).trans (am_ite _ _ trivial (by simp only [am_cond, decide_eq_true_eq]))
theorem r28_139  : am_Rn L xs d 28 139 ls st σ Q = am_Rn L xs d 28 140 ls (.int 1 :: st) σ Q := am_r_iconst d28_139 (by decide)
theorem r28_140  : am_Rn L xs d 28 140 ls st σ Q = am_Rn L xs d 28 144 ls st σ Q := am_r_goto d28_140 (by decide)
theorem r28_143  : am_Rn L xs d 28 143 ls st σ Q = am_Rn L xs d 28 144 ls (.int 0 :: st) σ Q := am_r_iconst d28_143 (by decide)
theorem r28_144 {v : Int32} (hv : v = 0 ∨ v = 1) : am_Rn L xs d 28 144 ls [.int v] σ Q = Q (some (.int v)) σ := am_r_zreturn d28_144 rfl hv
theorem d29_0 : decode (pg_code 29) 0 = .ok (.aload_n 0, 1) := by decide +kernel
theorem d29_1 : decode (pg_code 29) 1 = .ok (.getfield 27, 3) := by decide +kernel
theorem d29_4 : decode (pg_code 29) 4 = .ok (.iload_n 1, 1) := by decide +kernel
theorem d29_5 : decode (pg_code 29) 5 = .ok (.iaload, 1) := by decide +kernel
theorem d29_6 : decode (pg_code 29) 6 = .ok (.iload_n 2, 1) := by decide +kernel
theorem d29_7 : decode (pg_code 29) 7 = .ok (.ishr, 1) := by decide +kernel
theorem d29_8 : decode (pg_code 29) 8 = .ok (.iconst 1, 1) := by decide +kernel
theorem d29_9 : decode (pg_code 29) 9 = .ok (.iand, 1) := by decide +kernel
theorem d29_10 : decode (pg_code 29) 10 = .ok (.ifCond .eq 27, 3) := by decide +kernel
theorem d29_13 : decode (pg_code 29) 13 = .ok (.aload_n 0, 1) := by decide +kernel
theorem d29_14 : decode (pg_code 29) 14 = .ok (.getfield 9, 3) := by decide +kernel
theorem d29_17 : decode (pg_code 29) 17 = .ok (.iload_n 1, 1) := by decide +kernel
theorem d29_18 : decode (pg_code 29) 18 = .ok (.iaload, 1) := by decide +kernel
theorem d29_19 : decode (pg_code 29) 19 = .ok (.iconst (-1), 1) := by decide +kernel
theorem d29_20 : decode (pg_code 29) 20 = .ok (.if_icmp .ne 17, 3) := by decide +kernel
theorem d29_23 : decode (pg_code 29) 23 = .ok (.aload_n 0, 1) := by decide +kernel
theorem d29_24 : decode (pg_code 29) 24 = .ok (.getfield 15, 3) := by decide +kernel
theorem d29_27 : decode (pg_code 29) 27 = .ok (.iload_n 2, 1) := by decide +kernel
theorem d29_28 : decode (pg_code 29) 28 = .ok (.iaload, 1) := by decide +kernel
theorem d29_29 : decode (pg_code 29) 29 = .ok (.iconst (-1), 1) := by decide +kernel
theorem d29_30 : decode (pg_code 29) 30 = .ok (.if_icmp .ne 7, 3) := by decide +kernel
theorem d29_33 : decode (pg_code 29) 33 = .ok (.iconst 1, 1) := by decide +kernel
theorem d29_34 : decode (pg_code 29) 34 = .ok (.goto 4, 3) := by decide +kernel
theorem d29_37 : decode (pg_code 29) 37 = .ok (.iconst 0, 1) := by decide +kernel
theorem d29_38 : decode (pg_code 29) 38 = .ok (.ireturn, 1) := by decide +kernel
theorem e29 {b1 b2 b3 : Value} : am_Call L xs d 29 [b1, b2, b3] σ Q = am_Rn L xs d 29 0 [b1, b2, b3] [] σ Q := rfl
theorem r29_0  : am_Rn L xs d 29 0 ls st σ Q = am_la ls 0 (fun x => am_Rn L xs d 29 1 ls (x :: st) σ Q) := am_r_aload_n d29_0
theorem r29_1 {p : Nat} : am_Rn L xs d 29 1 ls (.ref p :: st) σ Q = am_fd σ p 3 5 (fun v => am_Rn L xs d 29 4 ls (v :: st) σ Q) := am_r_getfield d29_1 rfl
theorem r29_4  : am_Rn L xs d 29 4 ls st σ Q = am_li ls 1 (fun x => am_Rn L xs d 29 5 ls (.int x :: st) σ Q) := am_r_iload_n d29_4
theorem r29_5 {p : Nat} {i : Int32} : am_Rn L xs d 29 5 ls (.int i :: .ref p :: st) σ Q = am_ai 0 σ p i (fun x => am_Rn L xs d 29 6 ls (.int x :: st) σ Q) := am_r_iaload d29_5
theorem r29_6  : am_Rn L xs d 29 6 ls st σ Q = am_li ls 2 (fun x => am_Rn L xs d 29 7 ls (.int x :: st) σ Q) := am_r_iload_n d29_6
theorem r29_7 {a b : Int32} : am_Rn L xs d 29 7 ls (.int b :: .int a :: st) σ Q = am_Rn L xs d 29 8 ls (.int (a >>> (b &&& 31)) :: st) σ Q := am_r_ishr d29_7
theorem r29_8  : am_Rn L xs d 29 8 ls st σ Q = am_Rn L xs d 29 9 ls (.int 1 :: st) σ Q := am_r_iconst d29_8 (by decide)
theorem r29_9 {a b : Int32} : am_Rn L xs d 29 9 ls (.int b :: .int a :: st) σ Q = am_Rn L xs d 29 10 ls (.int (a &&& b) :: st) σ Q := am_r_iand d29_9
theorem r29_10 {a : Int32} : am_Rn L xs d 29 10 ls (.int a :: st) σ Q = if a = 0 then am_Rn L xs d 29 37 ls st σ Q else am_Rn L xs d 29 13 ls st σ Q := (am_r_if (t := 37) d29_10 (by decide)).trans (am_ite _ _ trivial (by simp only [am_cond, decide_eq_true_eq]))
theorem r29_13  : am_Rn L xs d 29 13 ls st σ Q = am_la ls 0 (fun x => am_Rn L xs d 29 14 ls (x :: st) σ Q) := am_r_aload_n d29_13
theorem r29_14 {p : Nat} : am_Rn L xs d 29 14 ls (.ref p :: st) σ Q = am_fd σ p 3 0 (fun v => am_Rn L xs d 29 17 ls (v :: st) σ Q) := am_r_getfield d29_14 rfl
theorem r29_17  : am_Rn L xs d 29 17 ls st σ Q = am_li ls 1 (fun x => am_Rn L xs d 29 18 ls (.int x :: st) σ Q) := am_r_iload_n d29_17
theorem r29_18 {p : Nat} {i : Int32} : am_Rn L xs d 29 18 ls (.int i :: .ref p :: st) σ Q = am_ai 0 σ p i (fun x => am_Rn L xs d 29 19 ls (.int x :: st) σ Q) := am_r_iaload d29_18
theorem r29_19  : am_Rn L xs d 29 19 ls st σ Q = am_Rn L xs d 29 20 ls (.int (-1) :: st) σ Q := am_r_iconst d29_19 (by decide)
theorem r29_20 {a b : Int32} : am_Rn L xs d 29 20 ls (.int b :: .int a :: st) σ Q = if ¬ a = b then am_Rn L xs d 29 37 ls st σ Q else am_Rn L xs d 29 23 ls st σ Q := (am_r_icmp (t := 37) d29_20 (by decide)).trans (am_ite _ _ trivial (by simp only [am_cond, decide_eq_true_eq]))
theorem r29_23  : am_Rn L xs d 29 23 ls st σ Q = am_la ls 0 (fun x => am_Rn L xs d 29 24 ls (x :: st) σ Q) := am_r_aload_n d29_23
theorem r29_24 {p : Nat} : am_Rn L xs d 29 24 ls (.ref p :: st) σ Q = am_fd σ p 3 1 (fun v => am_Rn L xs d 29 27 ls (v :: st) σ Q) := am_r_getfield d29_24 rfl
theorem r29_27  : am_Rn L xs d 29 27 ls st σ Q = am_li ls 2 (fun x => am_Rn L xs d 29 28 ls (.int x :: st) σ Q) := am_r_iload_n d29_27
theorem r29_28 {p : Nat} {i : Int32} : am_Rn L xs d 29 28 ls (.int i :: .ref p :: st) σ Q = am_ai 0 σ p i (fun x => am_Rn L xs d 29 29 ls (.int x :: st) σ Q) := am_r_iaload d29_28
theorem r29_29  : am_Rn L xs d 29 29 ls st σ Q = am_Rn L xs d 29 30 ls (.int (-1) :: st) σ Q := am_r_iconst d29_29 (by decide)
theorem r29_30 {a b : Int32} : am_Rn L xs d 29 30 ls (.int b :: .int a :: st) σ Q = if ¬ a = b then am_Rn L xs d 29 37 ls st σ Q else am_Rn L xs d 29 33 ls st σ Q := (am_r_icmp (t := 37) d29_30 (by decide)).trans (am_ite _ _ trivial (by simp only [am_cond, decide_eq_true_eq]))
theorem r29_33  : am_Rn L xs d 29 33 ls st σ Q = am_Rn L xs d 29 34 ls (.int 1 :: st) σ Q := am_r_iconst d29_33 (by decide)
theorem r29_34  : am_Rn L xs d 29 34 ls st σ Q = am_Rn L xs d 29 38 ls st σ Q := am_r_goto d29_34 (by decide)
theorem r29_37  : am_Rn L xs d 29 37 ls st σ Q = am_Rn L xs d 29 38 ls (.int 0 :: st) σ Q := am_r_iconst d29_37 (by decide)
theorem r29_38 {v : Int32} (hv : v = 0 ∨ v = 1) : am_Rn L xs d 29 38 ls [.int v] σ Q = Q (some (.int v)) σ := am_r_zreturn d29_38 rfl hv
theorem d30_0 : decode (pg_code 30) 0 = .ok (.iload_n 1, 1) := by decide +kernel
theorem d30_1 : decode (pg_code 30) 1 = .ok (.ifCond .eq 7, 3) := by decide +kernel
theorem d30_4 : decode (pg_code 30) 4 = .ok (.iload_n 2, 1) := by decide +kernel
theorem d30_5 : decode (pg_code 30) 5 = .ok (.ifCond .ne 7, 3) := by decide +kernel
theorem d30_8 : decode (pg_code 30) 8 = .ok (.iconst 0, 1) := by decide +kernel
theorem d30_9 : decode (pg_code 30) 9 = .ok (.goto 25, 3) := by decide +kernel
theorem d30_12 : decode (pg_code 30) 12 = .ok (.aload_n 0, 1) := by decide +kernel
theorem d30_13 : decode (pg_code 30) 13 = .ok (.aload_n 0, 1) := by decide +kernel
theorem d30_14 : decode (pg_code 30) 14 = .ok (.getfield 35, 3) := by decide +kernel
theorem d30_17 : decode (pg_code 30) 17 = .ok (.getfield 88, 3) := by decide +kernel
theorem d30_20 : decode (pg_code 30) 20 = .ok (.iload_n 1, 1) := by decide +kernel
theorem d30_21 : decode (pg_code 30) 21 = .ok (.iaload, 1) := by decide +kernel
theorem d30_22 : decode (pg_code 30) 22 = .ok (.aload_n 0, 1) := by decide +kernel
theorem d30_23 : decode (pg_code 30) 23 = .ok (.getfield 39, 3) := by decide +kernel
theorem d30_26 : decode (pg_code 30) 26 = .ok (.getfield 88, 3) := by decide +kernel
theorem d30_29 : decode (pg_code 30) 29 = .ok (.iload_n 2, 1) := by decide +kernel
theorem d30_30 : decode (pg_code 30) 30 = .ok (.iaload, 1) := by decide +kernel
theorem d30_31 : decode (pg_code 30) 31 = .ok (.invokevirtual 91, 3) := by decide +kernel
theorem d30_34 : decode (pg_code 30) 34 = .ok (.ireturn, 1) := by decide +kernel
theorem e30 {b1 b2 b3 : Value} : am_Call L xs d 30 [b1, b2, b3] σ Q = am_Rn L xs d 30 0 [b1, b2, b3] [] σ Q := rfl
theorem r30_0  : am_Rn L xs d 30 0 ls st σ Q = am_li ls 1 (fun x => am_Rn L xs d 30 1 ls (.int x :: st) σ Q) := am_r_iload_n d30_0
theorem r30_1 {a : Int32} : am_Rn L xs d 30 1 ls (.int a :: st) σ Q = if a = 0 then am_Rn L xs d 30 8 ls st σ Q else am_Rn L xs d 30 4 ls st σ Q := (am_r_if (t := 8) d30_1 (by decide)).trans (am_ite _ _ trivial (by simp only [am_cond, decide_eq_true_eq]))
theorem r30_4  : am_Rn L xs d 30 4 ls st σ Q = am_li ls 2 (fun x => am_Rn L xs d 30 5 ls (.int x :: st) σ Q) := am_r_iload_n d30_4
theorem r30_5 {a : Int32} : am_Rn L xs d 30 5 ls (.int a :: st) σ Q = if ¬ a = 0 then am_Rn L xs d 30 12 ls st σ Q else am_Rn L xs d 30 8 ls st σ Q := (am_r_if (t := 12) d30_5 (by decide)).trans (am_ite _ _ trivial (by simp only [am_cond, decide_eq_true_eq]))
theorem r30_8  : am_Rn L xs d 30 8 ls st σ Q = am_Rn L xs d 30 9 ls (.int 0 :: st) σ Q := am_r_iconst d30_8 (by decide)
theorem r30_9  : am_Rn L xs d 30 9 ls st σ Q = am_Rn L xs d 30 34 ls st σ Q := am_r_goto d30_9 (by decide)
theorem r30_12  : am_Rn L xs d 30 12 ls st σ Q = am_la ls 0 (fun x => am_Rn L xs d 30 13 ls (x :: st) σ Q) := am_r_aload_n d30_12
theorem r30_13  : am_Rn L xs d 30 13 ls st σ Q = am_la ls 0 (fun x => am_Rn L xs d 30 14 ls (x :: st) σ Q) := am_r_aload_n d30_13
theorem r30_14 {p : Nat} : am_Rn L xs d 30 14 ls (.ref p :: st) σ Q = am_fd σ p 3 6 (fun v => am_Rn L xs d 30 17 ls (v :: st) σ Q) := am_r_getfield d30_14 rfl
theorem r30_17 {p : Nat} : am_Rn L xs d 30 17 ls (.ref p :: st) σ Q = am_fd σ p 1 0 (fun v => am_Rn L xs d 30 20 ls (v :: st) σ Q) := am_r_getfield d30_17 rfl
theorem r30_20  : am_Rn L xs d 30 20 ls st σ Q = am_li ls 1 (fun x => am_Rn L xs d 30 21 ls (.int x :: st) σ Q) := am_r_iload_n d30_20
theorem r30_21 {p : Nat} {i : Int32} : am_Rn L xs d 30 21 ls (.int i :: .ref p :: st) σ Q = am_ai 0 σ p i (fun x => am_Rn L xs d 30 22 ls (.int x :: st) σ Q) := am_r_iaload d30_21
theorem r30_22  : am_Rn L xs d 30 22 ls st σ Q = am_la ls 0 (fun x => am_Rn L xs d 30 23 ls (x :: st) σ Q) := am_r_aload_n d30_22
theorem r30_23 {p : Nat} : am_Rn L xs d 30 23 ls (.ref p :: st) σ Q = am_fd σ p 3 7 (fun v => am_Rn L xs d 30 26 ls (v :: st) σ Q) := am_r_getfield d30_23 rfl
theorem r30_26 {p : Nat} : am_Rn L xs d 30 26 ls (.ref p :: st) σ Q = am_fd σ p 1 0 (fun v => am_Rn L xs d 30 29 ls (v :: st) σ Q) := am_r_getfield d30_26 rfl
theorem r30_29  : am_Rn L xs d 30 29 ls st σ Q = am_li ls 2 (fun x => am_Rn L xs d 30 30 ls (.int x :: st) σ Q) := am_r_iload_n d30_29
theorem r30_30 {p : Nat} {i : Int32} : am_Rn L xs d 30 30 ls (.int i :: .ref p :: st) σ Q = am_ai 0 σ p i (fun x => am_Rn L xs d 30 31 ls (.int x :: st) σ Q) := am_r_iaload d30_30
theorem r30_31 {a1 a2 : Value} {p : Nat} : am_Rn L xs (d + 1) 30 31 ls (a2 :: a1 :: .ref p :: st) σ Q = ((am_oc σ p = 3 ∧ st.length ≤ 4 ∧ am_ok a1 = true ∧ am_ok a2 = true) ∧ am_Call L xs d 31 [.ref p, a1, a2] σ (fun r σ1 => am_Rn L xs (d + 1) 30 34 ls (r.toList ++ st) σ1 Q)) := am_R_virtual2 d30_31 rfl ⟨by decide, rfl⟩ rfl rfl (by decide)
theorem r30_34 {v : Int32} : am_Rn L xs d 30 34 ls [.int v] σ Q = Q (some (.int v)) σ := am_r_ireturn d30_34 rfl
theorem d31_0 : decode (pg_code 31) 0 = .ok (.iconst 0, 1) := by decide +kernel
theorem d31_1 : decode (pg_code 31) 1 = .ok (.istore_n 3, 1) := by decide +kernel
theorem d31_2 : decode (pg_code 31) 2 = .ok (.iload_n 1, 1) := by decide +kernel
theorem d31_3 : decode (pg_code 31) 3 = .ok (.iconst 1, 1) := by decide +kernel
theorem d31_4 : decode (pg_code 31) 4 = .ok (.iadd, 1) := by decide +kernel
theorem d31_5 : decode (pg_code 31) 5 = .ok (.istore 4, 2) := by decide +kernel
theorem d31_7 : decode (pg_code 31) 7 = .ok (.iload 4, 2) := by decide +kernel
theorem d31_9 : decode (pg_code 31) 9 = .ok (.aload_n 0, 1) := by decide +kernel
theorem d31_10 : decode (pg_code 31) 10 = .ok (.getfield 35, 3) := by decide +kernel
theorem d31_13 : decode (pg_code 31) 13 = .ok (.getfield 68, 3) := by decide +kernel
theorem d31_16 : decode (pg_code 31) 16 = .ok (.if_icmp .ge 68, 3) := by decide +kernel
theorem d31_19 : decode (pg_code 31) 19 = .ok (.aload_n 0, 1) := by decide +kernel
theorem d31_20 : decode (pg_code 31) 20 = .ok (.getfield 21, 3) := by decide +kernel
theorem d31_23 : decode (pg_code 31) 23 = .ok (.iload_n 1, 1) := by decide +kernel
theorem d31_24 : decode (pg_code 31) 24 = .ok (.iaload, 1) := by decide +kernel
theorem d31_25 : decode (pg_code 31) 25 = .ok (.iload 4, 2) := by decide +kernel
theorem d31_27 : decode (pg_code 31) 27 = .ok (.ishr, 1) := by decide +kernel
theorem d31_28 : decode (pg_code 31) 28 = .ok (.iconst 1, 1) := by decide +kernel
theorem d31_29 : decode (pg_code 31) 29 = .ok (.iand, 1) := by decide +kernel
theorem d31_30 : decode (pg_code 31) 30 = .ok (.ifCond .eq 18, 3) := by decide +kernel
theorem d31_33 : decode (pg_code 31) 33 = .ok (.aload_n 0, 1) := by decide +kernel
theorem d31_34 : decode (pg_code 31) 34 = .ok (.getfield 9, 3) := by decide +kernel
theorem d31_37 : decode (pg_code 31) 37 = .ok (.iload 4, 2) := by decide +kernel
theorem d31_39 : decode (pg_code 31) 39 = .ok (.iaload, 1) := by decide +kernel
theorem d31_40 : decode (pg_code 31) 40 = .ok (.iconst (-1), 1) := by decide +kernel
theorem d31_41 : decode (pg_code 31) 41 = .ok (.if_icmp .eq 7, 3) := by decide +kernel
theorem d31_44 : decode (pg_code 31) 44 = .ok (.iconst 1, 1) := by decide +kernel
theorem d31_45 : decode (pg_code 31) 45 = .ok (.goto 4, 3) := by decide +kernel
theorem d31_48 : decode (pg_code 31) 48 = .ok (.iconst 0, 1) := by decide +kernel
theorem d31_49 : decode (pg_code 31) 49 = .ok (.istore 5, 2) := by decide +kernel
theorem d31_51 : decode (pg_code 31) 51 = .ok (.iload 5, 2) := by decide +kernel
theorem d31_53 : decode (pg_code 31) 53 = .ok (.ifCond .eq 25, 3) := by decide +kernel
theorem d31_56 : decode (pg_code 31) 56 = .ok (.aload_n 0, 1) := by decide +kernel
theorem d31_57 : decode (pg_code 31) 57 = .ok (.getfield 24, 3) := by decide +kernel
theorem d31_60 : decode (pg_code 31) 60 = .ok (.iload_n 2, 1) := by decide +kernel
theorem d31_61 : decode (pg_code 31) 61 = .ok (.iaload, 1) := by decide +kernel
theorem d31_62 : decode (pg_code 31) 62 = .ok (.aload_n 0, 1) := by decide +kernel
theorem d31_63 : decode (pg_code 31) 63 = .ok (.getfield 9, 3) := by decide +kernel
theorem d31_66 : decode (pg_code 31) 66 = .ok (.iload 4, 2) := by decide +kernel
theorem d31_68 : decode (pg_code 31) 68 = .ok (.iaload, 1) := by decide +kernel
theorem d31_69 : decode (pg_code 31) 69 = .ok (.ishr, 1) := by decide +kernel
theorem d31_70 : decode (pg_code 31) 70 = .ok (.iconst 1, 1) := by decide +kernel
theorem d31_71 : decode (pg_code 31) 71 = .ok (.iand, 1) := by decide +kernel
theorem d31_72 : decode (pg_code 31) 72 = .ok (.ifCond .eq 6, 3) := by decide +kernel
theorem d31_75 : decode (pg_code 31) 75 = .ok (.iinc 3 1, 3) := by decide +kernel
theorem d31_78 : decode (pg_code 31) 78 = .ok (.iinc 4 1, 3) := by decide +kernel
theorem d31_81 : decode (pg_code 31) 81 = .ok (.goto (-74), 3) := by decide +kernel
theorem d31_84 : decode (pg_code 31) 84 = .ok (.iload_n 3, 1) := by decide +kernel
theorem d31_85 : decode (pg_code 31) 85 = .ok (.ireturn, 1) := by decide +kernel
theorem e31 {b1 b2 b3 : Value} : am_Call L xs d 31 [b1, b2, b3] σ Q = am_Rn L xs d 31 0 [b1, b2, b3, .retAddr 0, .retAddr 0, .retAddr 0] [] σ Q := rfl
theorem r31_0  : am_Rn L xs d 31 0 ls st σ Q = am_Rn L xs d 31 1 ls (.int 0 :: st) σ Q := am_r_iconst d31_0 (by decide)
theorem r31_1 {x : Int32} : am_Rn L xs d 31 1 ls (.int x :: st) σ Q = (3 < ls.length ∧ am_Rn L xs d 31 2 (ls.set 3 (.int x)) st σ Q) := am_r_istore_n d31_1
theorem r31_2  : am_Rn L xs d 31 2 ls st σ Q = am_li ls 1 (fun x => am_Rn L xs d 31 3 ls (.int x :: st) σ Q) := am_r_iload_n d31_2
theorem r31_3  : am_Rn L xs d 31 3 ls st σ Q = am_Rn L xs d 31 4 ls (.int 1 :: st) σ Q := am_r_iconst d31_3 (by decide)
theorem r31_4 {a b : Int32} : am_Rn L xs d 31 4 ls (.int b :: .int a :: st) σ Q = am_Rn L xs d 31 5 ls (.int (a + b) :: st) σ Q := am_r_iadd d31_4
theorem r31_5 {x : Int32} : am_Rn L xs d 31 5 ls (.int x :: st) σ Q = (4 < ls.length ∧ am_Rn L xs d 31 7 (ls.set 4 (.int x)) st σ Q) := am_r_istore d31_5
theorem r31_7  : am_Rn L xs d 31 7 ls st σ Q = am_li ls 4 (fun x => am_Rn L xs d 31 9 ls (.int x :: st) σ Q) := am_r_iload d31_7
theorem r31_9  : am_Rn L xs d 31 9 ls st σ Q = am_la ls 0 (fun x => am_Rn L xs d 31 10 ls (x :: st) σ Q) := am_r_aload_n d31_9
theorem r31_10 {p : Nat} : am_Rn L xs d 31 10 ls (.ref p :: st) σ Q = am_fd σ p 3 6 (fun v => am_Rn L xs d 31 13 ls (v :: st) σ Q) := am_r_getfield d31_10 rfl
theorem r31_13 {p : Nat} : am_Rn L xs d 31 13 ls (.ref p :: st) σ Q = am_fd σ p 1 4 (fun v => am_Rn L xs d 31 16 ls (v :: st) σ Q) := am_r_getfield d31_13 rfl
theorem r31_16 {a b : Int32} : am_Rn L xs d 31 16 ls (.int b :: .int a :: st) σ Q = if b ≤ a then am_Rn L xs d 31 84 ls st σ Q else am_Rn L xs d 31 19 ls st σ Q := (am_r_icmp (t := 84) d31_16 (by decide)).trans (am_ite _ _ trivial (by simp only [am_cond, decide_eq_true_eq]))
theorem r31_19  : am_Rn L xs d 31 19 ls st σ Q = am_la ls 0 (fun x => am_Rn L xs d 31 20 ls (x :: st) σ Q) := am_r_aload_n d31_19
theorem r31_20 {p : Nat} : am_Rn L xs d 31 20 ls (.ref p :: st) σ Q = am_fd σ p 3 3 (fun v => am_Rn L xs d 31 23 ls (v :: st) σ Q) := am_r_getfield d31_20 rfl
theorem r31_23  : am_Rn L xs d 31 23 ls st σ Q = am_li ls 1 (fun x => am_Rn L xs d 31 24 ls (.int x :: st) σ Q) := am_r_iload_n d31_23
theorem r31_24 {p : Nat} {i : Int32} : am_Rn L xs d 31 24 ls (.int i :: .ref p :: st) σ Q = am_ai 0 σ p i (fun x => am_Rn L xs d 31 25 ls (.int x :: st) σ Q) := am_r_iaload d31_24
theorem r31_25  : am_Rn L xs d 31 25 ls st σ Q = am_li ls 4 (fun x => am_Rn L xs d 31 27 ls (.int x :: st) σ Q) := am_r_iload d31_25
theorem r31_27 {a b : Int32} : am_Rn L xs d 31 27 ls (.int b :: .int a :: st) σ Q = am_Rn L xs d 31 28 ls (.int (a >>> (b &&& 31)) :: st) σ Q := am_r_ishr d31_27
theorem r31_28  : am_Rn L xs d 31 28 ls st σ Q = am_Rn L xs d 31 29 ls (.int 1 :: st) σ Q := am_r_iconst d31_28 (by decide)
theorem r31_29 {a b : Int32} : am_Rn L xs d 31 29 ls (.int b :: .int a :: st) σ Q = am_Rn L xs d 31 30 ls (.int (a &&& b) :: st) σ Q := am_r_iand d31_29
theorem r31_30 {a : Int32} : am_Rn L xs d 31 30 ls (.int a :: st) σ Q = if a = 0 then am_Rn L xs d 31 48 ls st σ Q else am_Rn L xs d 31 33 ls st σ Q := (am_r_if (t := 48) d31_30 (by decide)).trans (am_ite _ _ trivial (by simp only [am_cond, decide_eq_true_eq]))
theorem r31_33  : am_Rn L xs d 31 33 ls st σ Q = am_la ls 0 (fun x => am_Rn L xs d 31 34 ls (x :: st) σ Q) := am_r_aload_n d31_33
theorem r31_34 {p : Nat} : am_Rn L xs d 31 34 ls (.ref p :: st) σ Q = am_fd σ p 3 0 (fun v => am_Rn L xs d 31 37 ls (v :: st) σ Q) := am_r_getfield d31_34 rfl
theorem r31_37  : am_Rn L xs d 31 37 ls st σ Q = am_li ls 4 (fun x => am_Rn L xs d 31 39 ls (.int x :: st) σ Q) := am_r_iload d31_37
theorem r31_39 {p : Nat} {i : Int32} : am_Rn L xs d 31 39 ls (.int i :: .ref p :: st) σ Q = am_ai 0 σ p i (fun x => am_Rn L xs d 31 40 ls (.int x :: st) σ Q) := am_r_iaload d31_39
theorem r31_40  : am_Rn L xs d 31 40 ls st σ Q = am_Rn L xs d 31 41 ls (.int (-1) :: st) σ Q := am_r_iconst d31_40 (by decide)
theorem r31_41 {a b : Int32} : am_Rn L xs d 31 41 ls (.int b :: .int a :: st) σ Q = if a = b then am_Rn L xs d 31 48 ls st σ Q else am_Rn L xs d 31 44 ls st σ Q := (am_r_icmp (t := 48) d31_41 (by decide)).trans (am_ite _ _ trivial (by simp only [am_cond, decide_eq_true_eq]))
theorem r31_44  : am_Rn L xs d 31 44 ls st σ Q = am_Rn L xs d 31 45 ls (.int 1 :: st) σ Q := am_r_iconst d31_44 (by decide)
theorem r31_45  : am_Rn L xs d 31 45 ls st σ Q = am_Rn L xs d 31 49 ls st σ Q := am_r_goto d31_45 (by decide)
theorem r31_48  : am_Rn L xs d 31 48 ls st σ Q = am_Rn L xs d 31 49 ls (.int 0 :: st) σ Q := am_r_iconst d31_48 (by decide)
theorem r31_49 {x : Int32} : am_Rn L xs d 31 49 ls (.int x :: st) σ Q = (5 < ls.length ∧ am_Rn L xs d 31 51 (ls.set 5 (.int x)) st σ Q) := am_r_istore d31_49
theorem r31_51  : am_Rn L xs d 31 51 ls st σ Q = am_li ls 5 (fun x => am_Rn L xs d 31 53 ls (.int x :: st) σ Q) := am_r_iload d31_51
theorem r31_53 {a : Int32} : am_Rn L xs d 31 53 ls (.int a :: st) σ Q = if a = 0 then am_Rn L xs d 31 78 ls st σ Q else am_Rn L xs d 31 56 ls st σ Q := (am_r_if (t := 78) d31_53 (by decide)).trans (am_ite _ _ trivial (by simp only [am_cond, decide_eq_true_eq]))
theorem r31_56  : am_Rn L xs d 31 56 ls st σ Q = am_la ls 0 (fun x => am_Rn L xs d 31 57 ls (x :: st) σ Q) := am_r_aload_n d31_56
theorem r31_57 {p : Nat} : am_Rn L xs d 31 57 ls (.ref p :: st) σ Q = am_fd σ p 3 4 (fun v => am_Rn L xs d 31 60 ls (v :: st) σ Q) := am_r_getfield d31_57 rfl
theorem r31_60  : am_Rn L xs d 31 60 ls st σ Q = am_li ls 2 (fun x => am_Rn L xs d 31 61 ls (.int x :: st) σ Q) := am_r_iload_n d31_60
theorem r31_61 {p : Nat} {i : Int32} : am_Rn L xs d 31 61 ls (.int i :: .ref p :: st) σ Q = am_ai 0 σ p i (fun x => am_Rn L xs d 31 62 ls (.int x :: st) σ Q) := am_r_iaload d31_61
theorem r31_62  : am_Rn L xs d 31 62 ls st σ Q = am_la ls 0 (fun x => am_Rn L xs d 31 63 ls (x :: st) σ Q) := am_r_aload_n d31_62
theorem r31_63 {p : Nat} : am_Rn L xs d 31 63 ls (.ref p :: st) σ Q = am_fd σ p 3 0 (fun v => am_Rn L xs d 31 66 ls (v :: st) σ Q) := am_r_getfield d31_63 rfl
theorem r31_66  : am_Rn L xs d 31 66 ls st σ Q = am_li ls 4 (fun x => am_Rn L xs d 31 68 ls (.int x :: st) σ Q) := am_r_iload d31_66
theorem r31_68 {p : Nat} {i : Int32} : am_Rn L xs d 31 68 ls (.int i :: .ref p :: st) σ Q = am_ai 0 σ p i (fun x => am_Rn L xs d 31 69 ls (.int x :: st) σ Q) := am_r_iaload d31_68
theorem r31_69 {a b : Int32} : am_Rn L xs d 31 69 ls (.int b :: .int a :: st) σ Q = am_Rn L xs d 31 70 ls (.int (a >>> (b &&& 31)) :: st) σ Q := am_r_ishr d31_69
theorem r31_70  : am_Rn L xs d 31 70 ls st σ Q = am_Rn L xs d 31 71 ls (.int 1 :: st) σ Q := am_r_iconst d31_70 (by decide)
theorem r31_71 {a b : Int32} : am_Rn L xs d 31 71 ls (.int b :: .int a :: st) σ Q = am_Rn L xs d 31 72 ls (.int (a &&& b) :: st) σ Q := am_r_iand d31_71
theorem r31_72 {a : Int32} : am_Rn L xs d 31 72 ls (.int a :: st) σ Q = if a = 0 then am_Rn L xs d 31 78 ls st σ Q else am_Rn L xs d 31 75 ls st σ Q := (am_r_if (t := 78) d31_72 (by decide)).trans (am_ite _ _ trivial (by simp only [am_cond, decide_eq_true_eq]))
theorem r31_75  : am_Rn L xs d 31 75 ls st σ Q = am_li ls 3 (fun x => am_Rn L xs d 31 78 (ls.set 3 (.int (x + 1))) st σ Q) := am_r_iinc d31_75 (by decide)
theorem r31_78  : am_Rn L xs d 31 78 ls st σ Q = am_li ls 4 (fun x => am_Rn L xs d 31 81 (ls.set 4 (.int (x + 1))) st σ Q) := am_r_iinc d31_78 (by decide)
theorem r31_81  : am_Rn L xs d 31 81 ls st σ Q = am_Rn L xs d 31 7 ls st σ Q := am_r_goto d31_81 (by decide)
theorem r31_84  : am_Rn L xs d 31 84 ls st σ Q = am_li ls 3 (fun x => am_Rn L xs d 31 85 ls (.int x :: st) σ Q) := am_r_iload_n d31_84
theorem r31_85 {v : Int32} : am_Rn L xs d 31 85 ls [.int v] σ Q = Q (some (.int v)) σ := am_r_ireturn d31_85 rfl
theorem d32_0 : decode (pg_code 32) 0 = .ok (.iload_n 3, 1) := by decide +kernel
theorem d32_1 : decode (pg_code 32) 1 = .ok (.bipush 40, 2) := by decide +kernel
theorem d32_3 : decode (pg_code 32) 3 = .ok (.if_icmp .gt 25, 3) := by decide +kernel
theorem d32_6 : decode (pg_code 32) 6 = .ok (.aload_n 0, 1) := by decide +kernel
theorem d32_7 : decode (pg_code 32) 7 = .ok (.getfield 35, 3) := by decide +kernel
theorem d32_10 : decode (pg_code 32) 10 = .ok (.iload_n 1, 1) := by decide +kernel
theorem d32_11 : decode (pg_code 32) 11 = .ok (.invokevirtual 94, 3) := by decide +kernel
theorem d32_14 : decode (pg_code 32) 14 = .ok (.ifCond .eq 14, 3) := by decide +kernel
theorem d32_17 : decode (pg_code 32) 17 = .ok (.aload_n 0, 1) := by decide +kernel
theorem d32_18 : decode (pg_code 32) 18 = .ok (.getfield 39, 3) := by decide +kernel
theorem d32_21 : decode (pg_code 32) 21 = .ok (.iload_n 2, 1) := by decide +kernel
theorem d32_22 : decode (pg_code 32) 22 = .ok (.invokevirtual 94, 3) := by decide +kernel
theorem d32_25 : decode (pg_code 32) 25 = .ok (.ifCond .ne 4, 3) := by decide +kernel
theorem d32_28 : decode (pg_code 32) 28 = .ok (.return_, 1) := by decide +kernel
theorem d32_29 : decode (pg_code 32) 29 = .ok (.aload_n 0, 1) := by decide +kernel
theorem d32_30 : decode (pg_code 32) 30 = .ok (.iload_n 1, 1) := by decide +kernel
theorem d32_31 : decode (pg_code 32) 31 = .ok (.iload_n 2, 1) := by decide +kernel
theorem d32_32 : decode (pg_code 32) 32 = .ok (.invokevirtual 98, 3) := by decide +kernel
theorem d32_35 : decode (pg_code 32) 35 = .ok (.aload_n 0, 1) := by decide +kernel
theorem d32_36 : decode (pg_code 32) 36 = .ok (.getfield 35, 3) := by decide +kernel
theorem d32_39 : decode (pg_code 32) 39 = .ok (.iload_n 1, 1) := by decide +kernel
theorem d32_40 : decode (pg_code 32) 40 = .ok (.invokevirtual 102, 3) := by decide +kernel
theorem d32_43 : decode (pg_code 32) 43 = .ok (.istore 4, 2) := by decide +kernel
theorem d32_45 : decode (pg_code 32) 45 = .ok (.iconst 0, 1) := by decide +kernel
theorem d32_46 : decode (pg_code 32) 46 = .ok (.istore 5, 2) := by decide +kernel
theorem d32_48 : decode (pg_code 32) 48 = .ok (.iload 5, 2) := by decide +kernel
theorem d32_50 : decode (pg_code 32) 50 = .ok (.iload 4, 2) := by decide +kernel
theorem d32_52 : decode (pg_code 32) 52 = .ok (.if_icmp .ge 36, 3) := by decide +kernel
theorem d32_55 : decode (pg_code 32) 55 = .ok (.aload_n 0, 1) := by decide +kernel
theorem d32_56 : decode (pg_code 32) 56 = .ok (.aload_n 0, 1) := by decide +kernel
theorem d32_57 : decode (pg_code 32) 57 = .ok (.getfield 35, 3) := by decide +kernel
theorem d32_60 : decode (pg_code 32) 60 = .ok (.iload_n 1, 1) := by decide +kernel
theorem d32_61 : decode (pg_code 32) 61 = .ok (.iload 5, 2) := by decide +kernel
theorem d32_63 : decode (pg_code 32) 63 = .ok (.invokevirtual 106, 3) := by decide +kernel
theorem d32_66 : decode (pg_code 32) 66 = .ok (.aload_n 0, 1) := by decide +kernel
theorem d32_67 : decode (pg_code 32) 67 = .ok (.getfield 39, 3) := by decide +kernel
theorem d32_70 : decode (pg_code 32) 70 = .ok (.iload_n 2, 1) := by decide +kernel
theorem d32_71 : decode (pg_code 32) 71 = .ok (.iload 5, 2) := by decide +kernel
theorem d32_73 : decode (pg_code 32) 73 = .ok (.invokevirtual 106, 3) := by decide +kernel
theorem d32_76 : decode (pg_code 32) 76 = .ok (.iload_n 3, 1) := by decide +kernel
theorem d32_77 : decode (pg_code 32) 77 = .ok (.iconst 1, 1) := by decide +kernel
theorem d32_78 : decode (pg_code 32) 78 = .ok (.iadd, 1) := by decide +kernel
theorem d32_79 : decode (pg_code 32) 79 = .ok (.invokevirtual 84, 3) := by decide +kernel
theorem d32_82 : decode (pg_code 32) 82 = .ok (.iinc 5 1, 3) := by decide +kernel
theorem d32_85 : decode (pg_code 32) 85 = .ok (.goto (-37), 3) := by decide +kernel
theorem d32_88 : decode (pg_code 32) 88 = .ok (.return_, 1) := by decide +kernel
theorem e32 {b1 b2 b3 b4 : Value} : am_Call L xs d 32 [b1, b2, b3, b4] σ Q = am_Rn L xs d 32 0 [b1, b2, b3, b4, .retAddr 0, .retAddr 0] [] σ Q := rfl
theorem r32_0  : am_Rn L xs d 32 0 ls st σ Q = am_li ls 3 (fun x => am_Rn L xs d 32 1 ls (.int x :: st) σ Q) := am_r_iload_n d32_0
theorem r32_1  : am_Rn L xs d 32 1 ls st σ Q = am_Rn L xs d 32 3 ls (.int 40 :: st) σ Q := am_r_bipush d32_1 (by decide)
theorem r32_3 {a b : Int32} : am_Rn L xs d 32 3 ls (.int b :: .int a :: st) σ Q = if b < a then am_Rn L xs d 32 28 ls st σ Q else am_Rn L xs d 32 6 ls st σ Q := (am_r_icmp (t := 28) d32_3 (by decide)).trans (am_ite _ _ trivial (by simp only [am_cond, decide_eq_true_eq]))
theorem r32_6  : am_Rn L xs d 32 6 ls st σ Q = am_la ls 0 (fun x => am_Rn L xs d 32 7 ls (x :: st) σ Q) := am_r_aload_n d32_6
theorem r32_7 {p : Nat} : am_Rn L xs d 32 7 ls (.ref p :: st) σ Q = am_fd σ p 3 6 (fun v => am_Rn L xs d 32 10 ls (v :: st) σ Q) := am_r_getfield d32_7 rfl
theorem r32_10  : am_Rn L xs d 32 10 ls st σ Q = am_li ls 1 (fun x => am_Rn L xs d 32 11 ls (.int x :: st) σ Q) := am_r_iload_n d32_10
theorem r32_11 {a1 : Value} {p : Nat} : am_Rn L xs (d + 1) 32 11 ls (a1 :: .ref p :: st) σ Q = ((am_oc σ p = 1 ∧ st.length ≤ 4 ∧ am_ok a1 = true) ∧ am_Call L xs d 9 [.ref p, a1] σ (fun r σ1 => am_Rn L xs (d + 1) 32 14 ls (r.toList ++ st) σ1 Q)) := am_R_virtual1 d32_11 rfl ⟨by decide, rfl⟩ rfl rfl (by decide)
theorem r32_14 {a : Int32} : am_Rn L xs d 32 14 ls (.int a :: st) σ Q = if a = 0 then am_Rn L xs d 32 28 ls st σ Q else am_Rn L xs d 32 17 ls st σ Q := (am_r_if (t := 28) d32_14 (by decide)).trans (am_ite _ _ trivial (by simp only [am_cond, decide_eq_true_eq]))
theorem r32_17  : am_Rn L xs d 32 17 ls st σ Q = am_la ls 0 (fun x => am_Rn L xs d 32 18 ls (x :: st) σ Q) := am_r_aload_n d32_17
theorem r32_18 {p : Nat} : am_Rn L xs d 32 18 ls (.ref p :: st) σ Q = am_fd σ p 3 7 (fun v => am_Rn L xs d 32 21 ls (v :: st) σ Q) := am_r_getfield d32_18 rfl
theorem r32_21  : am_Rn L xs d 32 21 ls st σ Q = am_li ls 2 (fun x => am_Rn L xs d 32 22 ls (.int x :: st) σ Q) := am_r_iload_n d32_21
theorem r32_22 {a1 : Value} {p : Nat} : am_Rn L xs (d + 1) 32 22 ls (a1 :: .ref p :: st) σ Q = ((am_oc σ p = 1 ∧ st.length ≤ 4 ∧ am_ok a1 = true) ∧ am_Call L xs d 9 [.ref p, a1] σ (fun r σ1 => am_Rn L xs (d + 1) 32 25 ls (r.toList ++ st) σ1 Q)) := am_R_virtual1 d32_22 rfl ⟨by decide, rfl⟩ rfl rfl (by decide)
theorem r32_25 {a : Int32} : am_Rn L xs d 32 25 ls (.int a :: st) σ Q = if ¬ a = 0 then am_Rn L xs d 32 29 ls st σ Q else am_Rn L xs d 32 28 ls st σ Q := (am_r_if (t := 29) d32_25 (by decide)).trans (am_ite _ _ trivial (by simp only [am_cond, decide_eq_true_eq]))
theorem r32_28  : am_Rn L xs d 32 28 ls [] σ Q = Q none σ := am_r_return d32_28 rfl
theorem r32_29  : am_Rn L xs d 32 29 ls st σ Q = am_la ls 0 (fun x => am_Rn L xs d 32 30 ls (x :: st) σ Q) := am_r_aload_n d32_29
theorem r32_30  : am_Rn L xs d 32 30 ls st σ Q = am_li ls 1 (fun x => am_Rn L xs d 32 31 ls (.int x :: st) σ Q) := am_r_iload_n d32_30
theorem r32_31  : am_Rn L xs d 32 31 ls st σ Q = am_li ls 2 (fun x => am_Rn L xs d 32 32 ls (.int x :: st) σ Q) := am_r_iload_n d32_31
theorem r32_32 {a1 a2 : Value} {p : Nat} : am_Rn L xs (d + 1) 32 32 ls (a2 :: a1 :: .ref p :: st) σ Q = ((am_oc σ p = 3 ∧ st.length ≤ 4 ∧ am_ok a1 = true ∧ am_ok a2 = true) ∧ am_Call L xs d 33 [.ref p, a1, a2] σ (fun r σ1 => am_Rn L xs (d + 1) 32 35 ls (r.toList ++ st) σ1 Q)) := am_R_virtual2 d32_32 rfl ⟨by decide, rfl⟩ rfl rfl (by decide)
theorem r32_35  : am_Rn L xs d 32 35 ls st σ Q = am_la ls 0 (fun x => am_Rn L xs d 32 36 ls (x :: st) σ Q) := am_r_aload_n d32_35
theorem r32_36 {p : Nat} : am_Rn L xs d 32 36 ls (.ref p :: st) σ Q = am_fd σ p 3 6 (fun v => am_Rn L xs d 32 39 ls (v :: st) σ Q) := am_r_getfield d32_36 rfl
theorem r32_39  : am_Rn L xs d 32 39 ls st σ Q = am_li ls 1 (fun x => am_Rn L xs d 32 40 ls (.int x :: st) σ Q) := am_r_iload_n d32_39
theorem r32_40 {a1 : Value} {p : Nat} : am_Rn L xs (d + 1) 32 40 ls (a1 :: .ref p :: st) σ Q = ((am_oc σ p = 1 ∧ st.length ≤ 4 ∧ am_ok a1 = true) ∧ am_Call L xs d 10 [.ref p, a1] σ (fun r σ1 => am_Rn L xs (d + 1) 32 43 ls (r.toList ++ st) σ1 Q)) := am_R_virtual1 d32_40 rfl ⟨by decide, rfl⟩ rfl rfl (by decide)
theorem r32_43 {x : Int32} : am_Rn L xs d 32 43 ls (.int x :: st) σ Q = (4 < ls.length ∧ am_Rn L xs d 32 45 (ls.set 4 (.int x)) st σ Q) := am_r_istore d32_43
theorem r32_45  : am_Rn L xs d 32 45 ls st σ Q = am_Rn L xs d 32 46 ls (.int 0 :: st) σ Q := am_r_iconst d32_45 (by decide)
theorem r32_46 {x : Int32} : am_Rn L xs d 32 46 ls (.int x :: st) σ Q = (5 < ls.length ∧ am_Rn L xs d 32 48 (ls.set 5 (.int x)) st σ Q) := am_r_istore d32_46
theorem r32_48  : am_Rn L xs d 32 48 ls st σ Q = am_li ls 5 (fun x => am_Rn L xs d 32 50 ls (.int x :: st) σ Q) := am_r_iload d32_48
theorem r32_50  : am_Rn L xs d 32 50 ls st σ Q = am_li ls 4 (fun x => am_Rn L xs d 32 52 ls (.int x :: st) σ Q) := am_r_iload d32_50
theorem r32_52 {a b : Int32} : am_Rn L xs d 32 52 ls (.int b :: .int a :: st) σ Q = if b ≤ a then am_Rn L xs d 32 88 ls st σ Q else am_Rn L xs d 32 55 ls st σ Q := (am_r_icmp (t := 88) d32_52 (by decide)).trans (am_ite _ _ trivial (by simp only [am_cond, decide_eq_true_eq]))
theorem r32_55  : am_Rn L xs d 32 55 ls st σ Q = am_la ls 0 (fun x => am_Rn L xs d 32 56 ls (x :: st) σ Q) := am_r_aload_n d32_55
theorem r32_56  : am_Rn L xs d 32 56 ls st σ Q = am_la ls 0 (fun x => am_Rn L xs d 32 57 ls (x :: st) σ Q) := am_r_aload_n d32_56
theorem r32_57 {p : Nat} : am_Rn L xs d 32 57 ls (.ref p :: st) σ Q = am_fd σ p 3 6 (fun v => am_Rn L xs d 32 60 ls (v :: st) σ Q) := am_r_getfield d32_57 rfl
theorem r32_60  : am_Rn L xs d 32 60 ls st σ Q = am_li ls 1 (fun x => am_Rn L xs d 32 61 ls (.int x :: st) σ Q) := am_r_iload_n d32_60
theorem r32_61  : am_Rn L xs d 32 61 ls st σ Q = am_li ls 5 (fun x => am_Rn L xs d 32 63 ls (.int x :: st) σ Q) := am_r_iload d32_61
theorem r32_63 {a1 a2 : Value} {p : Nat} : am_Rn L xs (d + 1) 32 63 ls (a2 :: a1 :: .ref p :: st) σ Q = ((am_oc σ p = 1 ∧ st.length ≤ 4 ∧ am_ok a1 = true ∧ am_ok a2 = true) ∧ am_Call L xs d 11 [.ref p, a1, a2] σ (fun r σ1 => am_Rn L xs (d + 1) 32 66 ls (r.toList ++ st) σ1 Q)) := am_R_virtual2 d32_63 rfl ⟨by decide, rfl⟩ rfl rfl (by decide)
theorem r32_66  : am_Rn L xs d 32 66 ls st σ Q = am_la ls 0 (fun x => am_Rn L xs d 32 67 ls (x :: st) σ Q) := am_r_aload_n d32_66
theorem r32_67 {p : Nat} : am_Rn L xs d 32 67 ls (.ref p :: st) σ Q = am_fd σ p 3 7 (fun v => am_Rn L xs d 32 70 ls (v :: st) σ Q) := am_r_getfield d32_67 rfl
theorem r32_70  : am_Rn L xs d 32 70 ls st σ Q = am_li ls 2 (fun x => am_Rn L xs d 32 71 ls (.int x :: st) σ Q) := am_r_iload_n d32_70
theorem r32_71  : am_Rn L xs d 32 71 ls st σ Q = am_li ls 5 (fun x => am_Rn L xs d 32 73 ls (.int x :: st) σ Q) := am_r_iload d32_71
theorem r32_73 {a1 a2 : Value} {p : Nat} : am_Rn L xs (d + 1) 32 73 ls (a2 :: a1 :: .ref p :: st) σ Q = ((am_oc σ p = 1 ∧ st.length ≤ 4 ∧ am_ok a1 = true ∧ am_ok a2 = true) ∧ am_Call L xs d 11 [.ref p, a1, a2] σ (fun r σ1 => am_Rn L xs (d + 1) 32 76 ls (r.toList ++ st) σ1 Q)) := am_R_virtual2 d32_73 rfl ⟨by decide, rfl⟩ rfl rfl (by decide)
theorem r32_76  : am_Rn L xs d 32 76 ls st σ Q = am_li ls 3 (fun x => am_Rn L xs d 32 77 ls (.int x :: st) σ Q) := am_r_iload_n d32_76
theorem r32_77  : am_Rn L xs d 32 77 ls st σ Q = am_Rn L xs d 32 78 ls (.int 1 :: st) σ Q := am_r_iconst d32_77 (by decide)
theorem r32_78 {a b : Int32} : am_Rn L xs d 32 78 ls (.int b :: .int a :: st) σ Q = am_Rn L xs d 32 79 ls (.int (a + b) :: st) σ Q := am_r_iadd d32_78
theorem r32_79 {a1 a2 a3 : Value} {p : Nat} : am_Rn L xs (d + 1) 32 79 ls (a3 :: a2 :: a1 :: .ref p :: st) σ Q = ((am_oc σ p = 3 ∧ st.length ≤ 4 ∧ am_ok a1 = true ∧ am_ok a2 = true ∧ am_ok a3 = true) ∧ am_Call L xs d 32 [.ref p, a1, a2, a3] σ (fun r σ1 => am_Rn L xs (d + 1) 32 82 ls (r.toList ++ st) σ1 Q)) := am_R_virtual3 d32_79 rfl ⟨by decide, rfl⟩ rfl rfl (by decide)
theorem r32_82  : am_Rn L xs d 32 82 ls st σ Q = am_li ls 5 (fun x => am_Rn L xs d 32 85 (ls.set 5 (.int (x + 1))) st σ Q) := am_r_iinc d32_82 (by decide)
theorem r32_85  : am_Rn L xs d 32 85 ls st σ Q = am_Rn L xs d 32 48 ls st σ Q := am_r_goto d32_85 (by decide)
theorem r32_88  : am_Rn L xs d 32 88 ls [] σ Q = Q none σ := am_r_return d32_88 rfl
theorem d33_0 : decode (pg_code 33) 0 = .ok (.aload_n 0, 1) := by decide +kernel
theorem d33_1 : decode (pg_code 33) 1 = .ok (.getfield 9, 3) := by decide +kernel
theorem d33_4 : decode (pg_code 33) 4 = .ok (.iload_n 1, 1) := by decide +kernel
theorem d33_5 : decode (pg_code 33) 5 = .ok (.iload_n 2, 1) := by decide +kernel
theorem d33_6 : decode (pg_code 33) 6 = .ok (.iastore, 1) := by decide +kernel
theorem d33_7 : decode (pg_code 33) 7 = .ok (.aload_n 0, 1) := by decide +kernel
theorem d33_8 : decode (pg_code 33) 8 = .ok (.getfield 15, 3) := by decide +kernel
theorem d33_11 : decode (pg_code 33) 11 = .ok (.iload_n 2, 1) := by decide +kernel
theorem d33_12 : decode (pg_code 33) 12 = .ok (.iload_n 1, 1) := by decide +kernel
theorem d33_13 : decode (pg_code 33) 13 = .ok (.iastore, 1) := by decide +kernel
theorem d33_14 : decode (pg_code 33) 14 = .ok (.return_, 1) := by decide +kernel
theorem e33 {b1 b2 b3 : Value} : am_Call L xs d 33 [b1, b2, b3] σ Q = am_Rn L xs d 33 0 [b1, b2, b3] [] σ Q := rfl
theorem r33_0  : am_Rn L xs d 33 0 ls st σ Q = am_la ls 0 (fun x => am_Rn L xs d 33 1 ls (x :: st) σ Q) := am_r_aload_n d33_0
theorem r33_1 {p : Nat} : am_Rn L xs d 33 1 ls (.ref p :: st) σ Q = am_fd σ p 3 0 (fun v => am_Rn L xs d 33 4 ls (v :: st) σ Q) := am_r_getfield d33_1 rfl
theorem r33_4  : am_Rn L xs d 33 4 ls st σ Q = am_li ls 1 (fun x => am_Rn L xs d 33 5 ls (.int x :: st) σ Q) := am_r_iload_n d33_4
theorem r33_5  : am_Rn L xs d 33 5 ls st σ Q = am_li ls 2 (fun x => am_Rn L xs d 33 6 ls (.int x :: st) σ Q) := am_r_iload_n d33_5
theorem r33_6 {p : Nat} {i x : Int32} : am_Rn L xs d 33 6 ls (.int x :: .int i :: .ref p :: st) σ Q = am_wi 0 σ p i x (fun σ1 => am_Rn L xs d 33 7 ls st σ1 Q) := am_r_iastore d33_6
theorem r33_7  : am_Rn L xs d 33 7 ls st σ Q = am_la ls 0 (fun x => am_Rn L xs d 33 8 ls (x :: st) σ Q) := am_r_aload_n d33_7
theorem r33_8 {p : Nat} : am_Rn L xs d 33 8 ls (.ref p :: st) σ Q = am_fd σ p 3 1 (fun v => am_Rn L xs d 33 11 ls (v :: st) σ Q) := am_r_getfield d33_8 rfl
theorem r33_11  : am_Rn L xs d 33 11 ls st σ Q = am_li ls 2 (fun x => am_Rn L xs d 33 12 ls (.int x :: st) σ Q) := am_r_iload_n d33_11
theorem r33_12  : am_Rn L xs d 33 12 ls st σ Q = am_li ls 1 (fun x => am_Rn L xs d 33 13 ls (.int x :: st) σ Q) := am_r_iload_n d33_12
theorem r33_13 {p : Nat} {i x : Int32} : am_Rn L xs d 33 13 ls (.int x :: .int i :: .ref p :: st) σ Q = am_wi 0 σ p i x (fun σ1 => am_Rn L xs d 33 14 ls st σ1 Q) := am_r_iastore d33_13
theorem r33_14  : am_Rn L xs d 33 14 ls [] σ Q = Q none σ := am_r_return d33_14 rfl
theorem d34_0 : decode (pg_code 34) 0 = .ok (.aload_n 0, 1) := by decide +kernel
theorem d34_1 : decode (pg_code 34) 1 = .ok (.getfield 35, 3) := by decide +kernel
theorem d34_4 : decode (pg_code 34) 4 = .ok (.getfield 68, 3) := by decide +kernel
theorem d34_7 : decode (pg_code 34) 7 = .ok (.iconst 1, 1) := by decide +kernel
theorem d34_8 : decode (pg_code 34) 8 = .ok (.isub, 1) := by decide +kernel
theorem d34_9 : decode (pg_code 34) 9 = .ok (.istore_n 1, 1) := by decide +kernel
theorem d34_10 : decode (pg_code 34) 10 = .ok (.iload_n 1, 1) := by decide +kernel
theorem d34_11 : decode (pg_code 34) 11 = .ok (.ifCond .lt 46, 3) := by decide +kernel
theorem d34_14 : decode (pg_code 34) 14 = .ok (.aload_n 0, 1) := by decide +kernel
theorem d34_15 : decode (pg_code 34) 15 = .ok (.getfield 9, 3) := by decide +kernel
theorem d34_18 : decode (pg_code 34) 18 = .ok (.iload_n 1, 1) := by decide +kernel
theorem d34_19 : decode (pg_code 34) 19 = .ok (.iaload, 1) := by decide +kernel
theorem d34_20 : decode (pg_code 34) 20 = .ok (.iconst (-1), 1) := by decide +kernel
theorem d34_21 : decode (pg_code 34) 21 = .ok (.if_icmp .ne 11, 3) := by decide +kernel
theorem d34_24 : decode (pg_code 34) 24 = .ok (.aload_n 0, 1) := by decide +kernel
theorem d34_25 : decode (pg_code 34) 25 = .ok (.iload_n 1, 1) := by decide +kernel
theorem d34_26 : decode (pg_code 34) 26 = .ok (.invokevirtual 109, 3) := by decide +kernel
theorem d34_29 : decode (pg_code 34) 29 = .ok (.goto 4, 3) := by decide +kernel
theorem d34_32 : decode (pg_code 34) 32 = .ok (.iconst (-1), 1) := by decide +kernel
theorem d34_33 : decode (pg_code 34) 33 = .ok (.istore_n 2, 1) := by decide +kernel
theorem d34_34 : decode (pg_code 34) 34 = .ok (.iload_n 2, 1) := by decide +kernel
theorem d34_35 : decode (pg_code 34) 35 = .ok (.iconst (-1), 1) := by decide +kernel
theorem d34_36 : decode (pg_code 34) 36 = .ok (.if_icmp .eq 15, 3) := by decide +kernel
theorem d34_39 : decode (pg_code 34) 39 = .ok (.aload_n 0, 1) := by decide +kernel
theorem d34_40 : decode (pg_code 34) 40 = .ok (.iload_n 1, 1) := by decide +kernel
theorem d34_41 : decode (pg_code 34) 41 = .ok (.iload_n 2, 1) := by decide +kernel
theorem d34_42 : decode (pg_code 34) 42 = .ok (.invokevirtual 98, 3) := by decide +kernel
theorem d34_45 : decode (pg_code 34) 45 = .ok (.aload_n 0, 1) := by decide +kernel
theorem d34_46 : decode (pg_code 34) 46 = .ok (.iload_n 1, 1) := by decide +kernel
theorem d34_47 : decode (pg_code 34) 47 = .ok (.iload_n 2, 1) := by decide +kernel
theorem d34_48 : decode (pg_code 34) 48 = .ok (.invokevirtual 112, 3) := by decide +kernel
theorem d34_51 : decode (pg_code 34) 51 = .ok (.iinc 1 (-1), 3) := by decide +kernel
theorem d34_54 : decode (pg_code 34) 54 = .ok (.goto (-44), 3) := by decide +kernel
theorem d34_57 : decode (pg_code 34) 57 = .ok (.return_, 1) := by decide +kernel
theorem e34 {b1 : Value} : am_Call L xs d 34 [b1] σ Q = am_Rn L xs d 34 0 [b1, .retAddr 0, .retAddr 0] [] σ Q := rfl
theorem r34_0  : am_Rn L xs d 34 0 ls st σ Q = am_la ls 0 (fun x => am_Rn L xs d 34 1 ls (x :: st) σ Q) := am_r_aload_n d34_0
theorem r34_1 {p : Nat} : am_Rn L xs d 34 1 ls (.ref p :: st) σ Q = am_fd σ p 3 6 (fun v => am_Rn L xs d 34 4 ls (v :: st) σ Q) := am_r_getfield d34_1 rfl
theorem r34_4 {p : Nat} : am_Rn L xs d 34 4 ls (.ref p :: st) σ Q = am_fd σ p 1 4 (fun v => am_Rn L xs d 34 7 ls (v :: st) σ Q) := am_r_getfield d34_4 rfl
theorem r34_7  : am_Rn L xs d 34 7 ls st σ Q = am_Rn L xs d 34 8 ls (.int 1 :: st) σ Q := am_r_iconst d34_7 (by decide)
theorem r34_8 {a b : Int32} : am_Rn L xs d 34 8 ls (.int b :: .int a :: st) σ Q = am_Rn L xs d 34 9 ls (.int (a - b) :: st) σ Q := am_r_isub d34_8
theorem r34_9 {x : Int32} : am_Rn L xs d 34 9 ls (.int x :: st) σ Q = (1 < ls.length ∧ am_Rn L xs d 34 10 (ls.set 1 (.int x)) st σ Q) := am_r_istore_n d34_9
theorem r34_10  : am_Rn L xs d 34 10 ls st σ Q = am_li ls 1 (fun x => am_Rn L xs d 34 11 ls (.int x :: st) σ Q) := am_r_iload_n d34_10
theorem r34_11 {a : Int32} : am_Rn L xs d 34 11 ls (.int a :: st) σ Q = if a < 0 then am_Rn L xs d 34 57 ls st σ Q else am_Rn L xs d 34 14 ls st σ Q := (am_r_if (t := 57) d34_11 (by decide)).trans (am_ite _ _ trivial (by simp only [am_cond, decide_eq_true_eq]))
theorem r34_14  : am_Rn L xs d 34 14 ls st σ Q = am_la ls 0 (fun x => am_Rn L xs d 34 15 ls (x :: st) σ Q) := am_r_aload_n d34_14
theorem r34_15 {p : Nat} : am_Rn L xs d 34 15 ls (.ref p :: st) σ Q = am_fd σ p 3 0 (fun v => am_Rn L xs d 34 18 ls (v :: st) σ Q) := am_r_getfield d34_15 rfl
theorem r34_18  : am_Rn L xs d 34 18 ls st σ Q = am_li ls 1 (fun x => am_Rn L xs d 34 19 ls (.int x :: st) σ Q) := am_r_iload_n d34_18
theorem r34_19 {p : Nat} {i : Int32} : am_Rn L xs d 34 19 ls (.int i :: .ref p :: st) σ Q = am_ai 0 σ p i (fun x => am_Rn L xs d 34 20 ls (.int x :: st) σ Q) := am_r_iaload d34_19
theorem r34_20  : am_Rn L xs d 34 20 ls st σ Q = am_Rn L xs d 34 21 ls (.int (-1) :: st) σ Q := am_r_iconst d34_20 (by decide)
theorem r34_21 {a b : Int32} : am_Rn L xs d 34 21 ls (.int b :: .int a :: st) σ Q = if ¬ a = b then am_Rn L xs d 34 32 ls st σ Q else am_Rn L xs d 34 24 ls st σ Q := (am_r_icmp (t := 32) d34_21 (by decide)).trans (am_ite _ _ trivial (by simp only [am_cond, decide_eq_true_eq]))
theorem r34_24  : am_Rn L xs d 34 24 ls st σ Q = am_la ls 0 (fun x => am_Rn L xs d 34 25 ls (x :: st) σ Q) := am_r_aload_n d34_24
theorem r34_25  : am_Rn L xs d 34 25 ls st σ Q = am_li ls 1 (fun x => am_Rn L xs d 34 26 ls (.int x :: st) σ Q) := am_r_iload_n d34_25
theorem r34_26 {a1 : Value} {p : Nat} : am_Rn L xs (d + 1) 34 26 ls (a1 :: .ref p :: st) σ Q = ((am_oc σ p = 3 ∧ st.length ≤ 4 ∧ am_ok a1 = true) ∧ am_Call L xs d 35 [.ref p, a1] σ (fun r σ1 => am_Rn L xs (d + 1) 34 29 ls (r.toList ++ st) σ1 Q)) := am_R_virtual1 d34_26 rfl ⟨by decide, rfl⟩ rfl rfl (by decide)
theorem r34_29  : am_Rn L xs d 34 29 ls st σ Q = am_Rn L xs d 34 33 ls st σ Q := am_r_goto d34_29 (by decide)
theorem r34_32  : am_Rn L xs d 34 32 ls st σ Q = am_Rn L xs d 34 33 ls (.int (-1) :: st) σ Q := am_r_iconst d34_32 (by decide)
theorem r34_33 {x : Int32} : am_Rn L xs d 34 33 ls (.int x :: st) σ Q = (2 < ls.length ∧ am_Rn L xs d 34 34 (ls.set 2 (.int x)) st σ Q) := am_r_istore_n d34_33
theorem r34_34  : am_Rn L xs d 34 34 ls st σ Q = am_li ls 2 (fun x => am_Rn L xs d 34 35 ls (.int x :: st) σ Q) := am_r_iload_n d34_34
theorem r34_35  : am_Rn L xs d 34 35 ls st σ Q = am_Rn L xs d 34 36 ls (.int (-1) :: st) σ Q := am_r_iconst d34_35 (by decide)
theorem r34_36 {a b : Int32} : am_Rn L xs d 34 36 ls (.int b :: .int a :: st) σ Q = if a = b then am_Rn L xs d 34 51 ls st σ Q else am_Rn L xs d 34 39 ls st σ Q := (am_r_icmp (t := 51) d34_36 (by decide)).trans (am_ite _ _ trivial (by simp only [am_cond, decide_eq_true_eq]))
theorem r34_39  : am_Rn L xs d 34 39 ls st σ Q = am_la ls 0 (fun x => am_Rn L xs d 34 40 ls (x :: st) σ Q) := am_r_aload_n d34_39
theorem r34_40  : am_Rn L xs d 34 40 ls st σ Q = am_li ls 1 (fun x => am_Rn L xs d 34 41 ls (.int x :: st) σ Q) := am_r_iload_n d34_40
theorem r34_41  : am_Rn L xs d 34 41 ls st σ Q = am_li ls 2 (fun x => am_Rn L xs d 34 42 ls (.int x :: st) σ Q) := am_r_iload_n d34_41
theorem r34_42 {a1 a2 : Value} {p : Nat} : am_Rn L xs (d + 1) 34 42 ls (a2 :: a1 :: .ref p :: st) σ Q = ((am_oc σ p = 3 ∧ st.length ≤ 4 ∧ am_ok a1 = true ∧ am_ok a2 = true) ∧ am_Call L xs d 33 [.ref p, a1, a2] σ (fun r σ1 => am_Rn L xs (d + 1) 34 45 ls (r.toList ++ st) σ1 Q)) := am_R_virtual2 d34_42 rfl ⟨by decide, rfl⟩ rfl rfl (by decide)
theorem r34_45  : am_Rn L xs d 34 45 ls st σ Q = am_la ls 0 (fun x => am_Rn L xs d 34 46 ls (x :: st) σ Q) := am_r_aload_n d34_45
theorem r34_46  : am_Rn L xs d 34 46 ls st σ Q = am_li ls 1 (fun x => am_Rn L xs d 34 47 ls (.int x :: st) σ Q) := am_r_iload_n d34_46
theorem r34_47  : am_Rn L xs d 34 47 ls st σ Q = am_li ls 2 (fun x => am_Rn L xs d 34 48 ls (.int x :: st) σ Q) := am_r_iload_n d34_47
theorem r34_48 {a1 a2 : Value} {p : Nat} : am_Rn L xs (d + 1) 34 48 ls (a2 :: a1 :: .ref p :: st) σ Q = ((am_oc σ p = 3 ∧ st.length ≤ 4 ∧ am_ok a1 = true ∧ am_ok a2 = true) ∧ am_Call L xs d 37 [.ref p, a1, a2] σ (fun r σ1 => am_Rn L xs (d + 1) 34 51 ls (r.toList ++ st) σ1 Q)) := am_R_virtual2 d34_48 rfl ⟨by decide, rfl⟩ rfl rfl (by decide)
theorem r34_51  : am_Rn L xs d 34 51 ls st σ Q = am_li ls 1 (fun x => am_Rn L xs d 34 54 (ls.set 1 (.int (x + (-1)))) st σ Q) := am_r_iinc d34_51 (by decide)
theorem r34_54  : am_Rn L xs d 34 54 ls st σ Q = am_Rn L xs d 34 10 ls st σ Q := am_r_goto d34_54 (by decide)
theorem r34_57  : am_Rn L xs d 34 57 ls [] σ Q = Q none σ := am_r_return d34_57 rfl
theorem d35_0 : decode (pg_code 35) 0 = .ok (.iconst (-1), 1) := by decide +kernel
theorem d35_1 : decode (pg_code 35) 1 = .ok (.istore_n 2, 1) := by decide +kernel
theorem d35_2 : decode (pg_code 35) 2 = .ok (.iconst 0, 1) := by decide +kernel
theorem d35_3 : decode (pg_code 35) 3 = .ok (.istore_n 3, 1) := by decide +kernel
theorem d35_4 : decode (pg_code 35) 4 = .ok (.iconst 1, 1) := by decide +kernel
theorem d35_5 : decode (pg_code 35) 5 = .ok (.istore 4, 2) := by decide +kernel
theorem d35_7 : decode (pg_code 35) 7 = .ok (.iconst 0, 1) := by decide +kernel
theorem d35_8 : decode (pg_code 35) 8 = .ok (.istore 5, 2) := by decide +kernel
theorem d35_10 : decode (pg_code 35) 10 = .ok (.iload 5, 2) := by decide +kernel
theorem d35_12 : decode (pg_code 35) 12 = .ok (.aload_n 0, 1) := by decide +kernel
theorem d35_13 : decode (pg_code 35) 13 = .ok (.getfield 39, 3) := by decide +kernel
theorem d35_16 : decode (pg_code 35) 16 = .ok (.getfield 68, 3) := by decide +kernel
theorem d35_19 : decode (pg_code 35) 19 = .ok (.if_icmp .ge 125, 3) := by decide +kernel
theorem d35_22 : decode (pg_code 35) 22 = .ok (.aload_n 0, 1) := by decide +kernel
theorem d35_23 : decode (pg_code 35) 23 = .ok (.getfield 15, 3) := by decide +kernel
theorem d35_26 : decode (pg_code 35) 26 = .ok (.iload 5, 2) := by decide +kernel
theorem d35_28 : decode (pg_code 35) 28 = .ok (.iaload, 1) := by decide +kernel
theorem d35_29 : decode (pg_code 35) 29 = .ok (.iconst (-1), 1) := by decide +kernel
theorem d35_30 : decode (pg_code 35) 30 = .ok (.if_icmp .ne 108, 3) := by decide +kernel
theorem d35_33 : decode (pg_code 35) 33 = .ok (.aload_n 0, 1) := by decide +kernel
theorem d35_34 : decode (pg_code 35) 34 = .ok (.getfield 35, 3) := by decide +kernel
theorem d35_37 : decode (pg_code 35) 37 = .ok (.getfield 115, 3) := by decide +kernel
theorem d35_40 : decode (pg_code 35) 40 = .ok (.iload_n 1, 1) := by decide +kernel
theorem d35_41 : decode (pg_code 35) 41 = .ok (.iaload, 1) := by decide +kernel
theorem d35_42 : decode (pg_code 35) 42 = .ok (.aload_n 0, 1) := by decide +kernel
theorem d35_43 : decode (pg_code 35) 43 = .ok (.getfield 39, 3) := by decide +kernel
theorem d35_46 : decode (pg_code 35) 46 = .ok (.getfield 115, 3) := by decide +kernel
theorem d35_49 : decode (pg_code 35) 49 = .ok (.iload 5, 2) := by decide +kernel
theorem d35_51 : decode (pg_code 35) 51 = .ok (.iaload, 1) := by decide +kernel
theorem d35_52 : decode (pg_code 35) 52 = .ok (.if_icmp .eq 6, 3) := by decide +kernel
theorem d35_55 : decode (pg_code 35) 55 = .ok (.goto 83, 3) := by decide +kernel
theorem d35_58 : decode (pg_code 35) 58 = .ok (.aload_n 0, 1) := by decide +kernel
theorem d35_59 : decode (pg_code 35) 59 = .ok (.iload_n 1, 1) := by decide +kernel
theorem d35_60 : decode (pg_code 35) 60 = .ok (.iload 5, 2) := by decide +kernel
theorem d35_62 : decode (pg_code 35) 62 = .ok (.invokevirtual 91, 3) := by decide +kernel
theorem d35_65 : decode (pg_code 35) 65 = .ok (.istore 6, 2) := by decide +kernel
theorem d35_67 : decode (pg_code 35) 67 = .ok (.aload_n 0, 1) := by decide +kernel
theorem d35_68 : decode (pg_code 35) 68 = .ok (.getfield 21, 3) := by decide +kernel
theorem d35_71 : decode (pg_code 35) 71 = .ok (.iload_n 1, 1) := by decide +kernel
theorem d35_72 : decode (pg_code 35) 72 = .ok (.iaload, 1) := by decide +kernel
theorem d35_73 : decode (pg_code 35) 73 = .ok (.invokestatic 118, 3) := by decide +kernel
theorem d35_76 : decode (pg_code 35) 76 = .ok (.aload_n 0, 1) := by decide +kernel
theorem d35_77 : decode (pg_code 35) 77 = .ok (.getfield 24, 3) := by decide +kernel
theorem d35_80 : decode (pg_code 35) 80 = .ok (.iload 5, 2) := by decide +kernel
theorem d35_82 : decode (pg_code 35) 82 = .ok (.iaload, 1) := by decide +kernel
theorem d35_83 : decode (pg_code 35) 83 = .ok (.invokestatic 118, 3) := by decide +kernel
theorem d35_86 : decode (pg_code 35) 86 = .ok (.iadd, 1) := by decide +kernel
theorem d35_87 : decode (pg_code 35) 87 = .ok (.istore 7, 2) := by decide +kernel
theorem d35_89 : decode (pg_code 35) 89 = .ok (.iload 6, 2) := by decide +kernel
theorem d35_91 : decode (pg_code 35) 91 = .ok (.iconst 1, 1) := by decide +kernel
theorem d35_92 : decode (pg_code 35) 92 = .ok (.if_icmp .lt 16, 3) := by decide +kernel
theorem d35_95 : decode (pg_code 35) 95 = .ok (.iconst 4, 1) := by decide +kernel
theorem d35_96 : decode (pg_code 35) 96 = .ok (.iload 6, 2) := by decide +kernel
theorem d35_98 : decode (pg_code 35) 98 = .ok (.imul, 1) := by decide +kernel
theorem d35_99 : decode (pg_code 35) 99 = .ok (.iload 7, 2) := by decide +kernel
theorem d35_101 : decode (pg_code 35) 101 = .ok (.if_icmp .lt 7, 3) := by decide +kernel
theorem d35_104 : decode (pg_code 35) 104 = .ok (.iconst 1, 1) := by decide +kernel
theorem d35_105 : decode (pg_code 35) 105 = .ok (.goto 4, 3) := by decide +kernel
theorem d35_108 : decode (pg_code 35) 108 = .ok (.iconst 0, 1) := by decide +kernel
theorem d35_109 : decode (pg_code 35) 109 = .ok (.istore 8, 2) := by decide +kernel
theorem d35_111 : decode (pg_code 35) 111 = .ok (.iload 8, 2) := by decide +kernel
theorem d35_113 : decode (pg_code 35) 113 = .ok (.ifCond .eq 25, 3) := by decide +kernel
theorem d35_116 : decode (pg_code 35) 116 = .ok (.iload 6, 2) := by decide +kernel
theorem d35_118 : decode (pg_code 35) 118 = .ok (.iload 4, 2) := by decide +kernel
theorem d35_120 : decode (pg_code 35) 120 = .ok (.imul, 1) := by decide +kernel
theorem d35_121 : decode (pg_code 35) 121 = .ok (.iload_n 3, 1) := by decide +kernel
theorem d35_122 : decode (pg_code 35) 122 = .ok (.iload 7, 2) := by decide +kernel
theorem d35_124 : decode (pg_code 35) 124 = .ok (.imul, 1) := by decide +kernel
theorem d35_125 : decode (pg_code 35) 125 = .ok (.if_icmp .le 13, 3) := by decide +kernel
theorem d35_128 : decode (pg_code 35) 128 = .ok (.iload 5, 2) := by decide +kernel
theorem d35_130 : decode (pg_code 35) 130 = .ok (.istore_n 2, 1) := by decide +kernel
theorem d35_131 : decode (pg_code 35) 131 = .ok (.iload 6, 2) := by decide +kernel
theorem d35_133 : decode (pg_code 35) 133 = .ok (.istore_n 3, 1) := by decide +kernel
theorem d35_134 : decode (pg_code 35) 134 = .ok (.iload 7, 2) := by decide +kernel
theorem d35_136 : decode (pg_code 35) 136 = .ok (.istore 4, 2) := by decide +kernel
theorem d35_138 : decode (pg_code 35) 138 = .ok (.iinc 5 1, 3) := by decide +kernel
theorem d35_141 : decode (pg_code 35) 141 = .ok (.goto (-131), 3) := by decide +kernel
theorem d35_144 : decode (pg_code 35) 144 = .ok (.iload_n 2, 1) := by decide +kernel
theorem d35_145 : decode (pg_code 35) 145 = .ok (.ireturn, 1) := by decide +kernel
theorem e35 {b1 b2 : Value} : am_Call L xs d 35 [b1, b2] σ Q = am_Rn L xs d 35 0 [b1, b2, .retAddr 0, .retAddr 0, .retAddr 0, .retAddr 0, .retAddr 0, .retAddr 0, .retAddr 0] [] σ Q := rfl
theorem r35_0  : am_Rn L xs d 35 0 ls st σ Q = am_Rn L xs d 35 1 ls (.int (-1) :: st) σ Q := am_r_iconst d35_0 (by decide)
theorem r35_1 {x : Int32} : am_Rn L xs d 35 1 ls (.int x :: st) σ Q = (2 < ls.length ∧ am_Rn L xs d 35 2 (ls.set 2 (.int x)) st σ Q) := am_r_istore_n d35_1
theorem r35_2  : am_Rn L xs d 35 2 ls st σ Q = am_Rn L xs d 35 3 ls (.int 0 :: st) σ Q := am_r_iconst d35_2 (by decide)
theorem r35_3 {x : Int32} : am_Rn L xs d 35 3 ls (.int x :: st) σ Q = (3 < ls.length ∧ am_Rn L xs d 35 4 (ls.set 3 (.int x)) st σ Q) := am_r_istore_n d35_3
theorem r35_4  : am_Rn L xs d 35 4 ls st σ Q = am_Rn L xs d 35 5 ls (.int 1 :: st) σ Q := am_r_iconst d35_4 (by decide)
theorem r35_5 {x : Int32} : am_Rn L xs d 35 5 ls (.int x :: st) σ Q = (4 < ls.length ∧ am_Rn L xs d 35 7 (ls.set 4 (.int x)) st σ Q) := am_r_istore d35_5
theorem r35_7  : am_Rn L xs d 35 7 ls st σ Q = am_Rn L xs d 35 8 ls (.int 0 :: st) σ Q := am_r_iconst d35_7 (by decide)
theorem r35_8 {x : Int32} : am_Rn L xs d 35 8 ls (.int x :: st) σ Q = (5 < ls.length ∧ am_Rn L xs d 35 10 (ls.set 5 (.int x)) st σ Q) := am_r_istore d35_8
theorem r35_10  : am_Rn L xs d 35 10 ls st σ Q = am_li ls 5 (fun x => am_Rn L xs d 35 12 ls (.int x :: st) σ Q) := am_r_iload d35_10
theorem r35_12  : am_Rn L xs d 35 12 ls st σ Q = am_la ls 0 (fun x => am_Rn L xs d 35 13 ls (x :: st) σ Q) := am_r_aload_n d35_12
theorem r35_13 {p : Nat} : am_Rn L xs d 35 13 ls (.ref p :: st) σ Q = am_fd σ p 3 7 (fun v => am_Rn L xs d 35 16 ls (v :: st) σ Q) := am_r_getfield d35_13 rfl
theorem r35_16 {p : Nat} : am_Rn L xs d 35 16 ls (.ref p :: st) σ Q = am_fd σ p 1 4 (fun v => am_Rn L xs d 35 19 ls (v :: st) σ Q) := am_r_getfield d35_16 rfl
theorem r35_19 {a b : Int32} : am_Rn L xs d 35 19 ls (.int b :: .int a :: st) σ Q = if b ≤ a then am_Rn L xs d 35 144 ls st σ Q else am_Rn L xs d 35 22 ls st σ Q := (am_r_icmp (t := 144) d35_19 (by decide)).trans (am_ite _ _ trivial (by simp only [am_cond, decide_eq_true_eq]))
theorem r35_22  : am_Rn L xs d 35 22 ls st σ Q = am_la ls 0 (fun x => am_Rn L xs d 35 23 ls (x :: st) σ Q) := am_r_aload_n d35_22
theorem r35_23 {p : Nat} : am_Rn L xs d 35 23 ls (.ref p :: st) σ Q = am_fd σ p 3 1 (fun v => am_Rn L xs d 35 26 ls (v :: st) σ Q) := am_r_getfield d35_23 rfl
theorem r35_26  : am_Rn L xs d 35 26 ls st σ Q = am_li ls 5 (fun x => am_Rn L xs d 35 28 ls (.int x :: st) σ Q) := am_r_iload d35_26
theorem r35_28 {p : Nat} {i : Int32} : am_Rn L xs d 35 28 ls (.int i :: .ref p :: st) σ Q = am_ai 0 σ p i (fun x => am_Rn L xs d 35 29 ls (.int x :: st) σ Q) := am_r_iaload d35_28
theorem r35_29  : am_Rn L xs d 35 29 ls st σ Q = am_Rn L xs d 35 30 ls (.int (-1) :: st) σ Q := am_r_iconst d35_29 (by decide)
theorem r35_30 {a b : Int32} : am_Rn L xs d 35 30 ls (.int b :: .int a :: st) σ Q = if ¬ a = b then am_Rn L xs d 35 138 ls st σ Q else am_Rn L xs d 35 33 ls st σ Q := (am_r_icmp (t := 138) d35_30 (by decide)).trans (am_ite _ _ trivial (by simp only [am_cond, decide_eq_true_eq]))
theorem r35_33  : am_Rn L xs d 35 33 ls st σ Q = am_la ls 0 (fun x => am_Rn L xs d 35 34 ls (x :: st) σ Q) := am_r_aload_n d35_33
theorem r35_34 {p : Nat} : am_Rn L xs d 35 34 ls (.ref p :: st) σ Q = am_fd σ p 3 6 (fun v => am_Rn L xs d 35 37 ls (v :: st) σ Q) := am_r_getfield d35_34 rfl
theorem r35_37 {p : Nat} : am_Rn L xs d 35 37 ls (.ref p :: st) σ Q = am_fd σ p 1 2 (fun v => am_Rn L xs d 35 40 ls (v :: st) σ Q) := am_r_getfield d35_37 rfl
theorem r35_40  : am_Rn L xs d 35 40 ls st σ Q = am_li ls 1 (fun x => am_Rn L xs d 35 41 ls (.int x :: st) σ Q) := am_r_iload_n d35_40
theorem r35_41 {p : Nat} {i : Int32} : am_Rn L xs d 35 41 ls (.int i :: .ref p :: st) σ Q = am_ai 0 σ p i (fun x => am_Rn L xs d 35 42 ls (.int x :: st) σ Q) := am_r_iaload d35_41
theorem r35_42  : am_Rn L xs d 35 42 ls st σ Q = am_la ls 0 (fun x => am_Rn L xs d 35 43 ls (x :: st) σ Q) := am_r_aload_n d35_42
theorem r35_43 {p : Nat} : am_Rn L xs d 35 43 ls (.ref p :: st) σ Q = am_fd σ p 3 7 (fun v => am_Rn L xs d 35 46 ls (v :: st) σ Q) := am_r_getfield d35_43 rfl
theorem r35_46 {p : Nat} : am_Rn L xs d 35 46 ls (.ref p :: st) σ Q = am_fd σ p 1 2 (fun v => am_Rn L xs d 35 49 ls (v :: st) σ Q) := am_r_getfield d35_46 rfl
theorem r35_49  : am_Rn L xs d 35 49 ls st σ Q = am_li ls 5 (fun x => am_Rn L xs d 35 51 ls (.int x :: st) σ Q) := am_r_iload d35_49
theorem r35_51 {p : Nat} {i : Int32} : am_Rn L xs d 35 51 ls (.int i :: .ref p :: st) σ Q = am_ai 0 σ p i (fun x => am_Rn L xs d 35 52 ls (.int x :: st) σ Q) := am_r_iaload d35_51
theorem r35_52 {a b : Int32} : am_Rn L xs d 35 52 ls (.int b :: .int a :: st) σ Q = if a = b then am_Rn L xs d 35 58 ls st σ Q else am_Rn L xs d 35 55 ls st σ Q := (am_r_icmp (t := 58) d35_52 (by decide)).trans (am_ite _ _ trivial (by simp only [am_cond, decide_eq_true_eq]))
theorem r35_55  : am_Rn L xs d 35 55 ls st σ Q = am_Rn L xs d 35 138 ls st σ Q := am_r_goto d35_55 (by decide)
theorem r35_58  : am_Rn L xs d 35 58 ls st σ Q = am_la ls 0 (fun x => am_Rn L xs d 35 59 ls (x :: st) σ Q) := am_r_aload_n d35_58
theorem r35_59  : am_Rn L xs d 35 59 ls st σ Q = am_li ls 1 (fun x => am_Rn L xs d 35 60 ls (.int x :: st) σ Q) := am_r_iload_n d35_59
theorem r35_60  : am_Rn L xs d 35 60 ls st σ Q = am_li ls 5 (fun x => am_Rn L xs d 35 62 ls (.int x :: st) σ Q) := am_r_iload d35_60
theorem r35_62 {a1 a2 : Value} {p : Nat} : am_Rn L xs (d + 1) 35 62 ls (a2 :: a1 :: .ref p :: st) σ Q = ((am_oc σ p = 3 ∧ st.length ≤ 4 ∧ am_ok a1 = true ∧ am_ok a2 = true) ∧ am_Call L xs d 31 [.ref p, a1, a2] σ (fun r σ1 => am_Rn L xs (d + 1) 35 65 ls (r.toList ++ st) σ1 Q)) := am_R_virtual2 d35_62 rfl ⟨by decide, rfl⟩ rfl rfl (by decide)
theorem r35_65 {x : Int32} : am_Rn L xs d 35 65 ls (.int x :: st) σ Q = (6 < ls.length ∧ am_Rn L xs d 35 67 (ls.set 6 (.int x)) st σ Q) := am_r_istore d35_65
theorem r35_67  : am_Rn L xs d 35 67 ls st σ Q = am_la ls 0 (fun x => am_Rn L xs d 35 68 ls (x :: st) σ Q) := am_r_aload_n d35_67
theorem r35_68 {p : Nat} : am_Rn L xs d 35 68 ls (.ref p :: st) σ Q = am_fd σ p 3 3 (fun v => am_Rn L xs d 35 71 ls (v :: st) σ Q) := am_r_getfield d35_68 rfl
theorem r35_71  : am_Rn L xs d 35 71 ls st σ Q = am_li ls 1 (fun x => am_Rn L xs d 35 72 ls (.int x :: st) σ Q) := am_r_iload_n d35_71
theorem r35_72 {p : Nat} {i : Int32} : am_Rn L xs d 35 72 ls (.int i :: .ref p :: st) σ Q = am_ai 0 σ p i (fun x => am_Rn L xs d 35 73 ls (.int x :: st) σ Q) := am_r_iaload d35_72
theorem r35_73 {a1 : Value} : am_Rn L xs (d + 1) 35 73 ls (a1 :: st) σ Q = ((st.length ≤ 4 ∧ am_ok a1 = true) ∧ am_Call L xs d 36 [a1] σ (fun r σ1 => am_Rn L xs (d + 1) 35 76 ls (r.toList ++ st) σ1 Q)) := am_R_static1 d35_73 rfl ⟨by decide, rfl⟩ rfl (by decide)
theorem r35_76  : am_Rn L xs d 35 76 ls st σ Q = am_la ls 0 (fun x => am_Rn L xs d 35 77 ls (x :: st) σ Q) := am_r_aload_n d35_76
theorem r35_77 {p : Nat} : am_Rn L xs d 35 77 ls (.ref p :: st) σ Q = am_fd σ p 3 4 (fun v => am_Rn L xs d 35 80 ls (v :: st) σ Q) := am_r_getfield d35_77 rfl
theorem r35_80  : am_Rn L xs d 35 80 ls st σ Q = am_li ls 5 (fun x => am_Rn L xs d 35 82 ls (.int x :: st) σ Q) := am_r_iload d35_80
theorem r35_82 {p : Nat} {i : Int32} : am_Rn L xs d 35 82 ls (.int i :: .ref p :: st) σ Q = am_ai 0 σ p i (fun x => am_Rn L xs d 35 83 ls (.int x :: st) σ Q) := am_r_iaload d35_82
theorem r35_83 {a1 : Value} : am_Rn L xs (d + 1) 35 83 ls (a1 :: st) σ Q = ((st.length ≤ 4 ∧ am_ok a1 = true) ∧ am_Call L xs d 36 [a1] σ (fun r σ1 => am_Rn L xs (d + 1) 35 86 ls (r.toList ++ st) σ1 Q)) := am_R_static1 d35_83 rfl ⟨by decide, rfl⟩ rfl (by decide)
theorem r35_86 {a b : Int32} : am_Rn L xs d 35 86 ls (.int b :: .int a :: st) σ Q = am_Rn L xs d 35 87 ls (.int (a + b) :: st) σ Q := am_r_iadd d35_86
theorem r35_87 {x : Int32} : am_Rn L xs d 35 87 ls (.int x :: st) σ Q = (7 < ls.length ∧ am_Rn L xs d 35 89 (ls.set 7 (.int x)) st σ Q) := am_r_istore d35_87
theorem r35_89  : am_Rn L xs d 35 89 ls st σ Q = am_li ls 6 (fun x => am_Rn L xs d 35 91 ls (.int x :: st) σ Q) := am_r_iload d35_89
theorem r35_91  : am_Rn L xs d 35 91 ls st σ Q = am_Rn L xs d 35 92 ls (.int 1 :: st) σ Q := am_r_iconst d35_91 (by decide)
theorem r35_92 {a b : Int32} : am_Rn L xs d 35 92 ls (.int b :: .int a :: st) σ Q = if a < b then am_Rn L xs d 35 108 ls st σ Q else am_Rn L xs d 35 95 ls st σ Q := (am_r_icmp (t := 108) d35_92 (by decide)).trans (am_ite _ _ trivial (by simp only [am_cond, decide_eq_true_eq]))
theorem r35_95  : am_Rn L xs d 35 95 ls st σ Q = am_Rn L xs d 35 96 ls (.int 4 :: st) σ Q := am_r_iconst d35_95 (by decide)
theorem r35_96  : am_Rn L xs d 35 96 ls st σ Q = am_li ls 6 (fun x => am_Rn L xs d 35 98 ls (.int x :: st) σ Q) := am_r_iload d35_96
theorem r35_98 {a b : Int32} : am_Rn L xs d 35 98 ls (.int b :: .int a :: st) σ Q = am_Rn L xs d 35 99 ls (.int (a * b) :: st) σ Q := am_r_imul d35_98
theorem r35_99  : am_Rn L xs d 35 99 ls st σ Q = am_li ls 7 (fun x => am_Rn L xs d 35 101 ls (.int x :: st) σ Q) := am_r_iload d35_99
theorem r35_101 {a b : Int32} : am_Rn L xs d 35 101 ls (.int b :: .int a :: st) σ Q = if a < b then am_Rn L xs d 35 108 ls st σ Q else am_Rn L xs d 35 104 ls st σ Q := (am_r_icmp (t := 108) d35_101 (by decide)).trans (am_ite _ _ trivial (by simp only [am_cond, decide_eq_true_eq]))
theorem r35_104  : am_Rn L xs d 35 104 ls st σ Q = am_Rn L xs d 35 105 ls (.int 1 :: st) σ Q := am_r_iconst d35_104 (by decide)
theorem r35_105  : am_Rn L xs d 35 105 ls st σ Q = am_Rn L xs d 35 109 ls st σ Q := am_r_goto d35_105 (by decide)
theorem r35_108  : am_Rn L xs d 35 108 ls st σ Q = am_Rn L xs d 35 109 ls (.int 0 :: st) σ Q := am_r_iconst d35_108 (by decide)
theorem r35_109 {x : Int32} : am_Rn L xs d 35 109 ls (.int x :: st) σ Q = (8 < ls.length ∧ am_Rn L xs d 35 111 (ls.set 8 (.int x)) st σ Q) := am_r_istore d35_109
theorem r35_111  : am_Rn L xs d 35 111 ls st σ Q = am_li ls 8 (fun x => am_Rn L xs d 35 113 ls (.int x :: st) σ Q) := am_r_iload d35_111
theorem r35_113 {a : Int32} : am_Rn L xs d 35 113 ls (.int a :: st) σ Q = if a = 0 then am_Rn L xs d 35 138 ls st σ Q else am_Rn L xs d 35 116 ls st σ Q := (am_r_if (t := 138) d35_113 (by decide)).trans (am_ite _ _ trivial (by simp only [am_cond, decide_eq_true_eq]))
theorem r35_116  : am_Rn L xs d 35 116 ls st σ Q = am_li ls 6 (fun x => am_Rn L xs d 35 118 ls (.int x :: st) σ Q) := am_r_iload d35_116
theorem r35_118  : am_Rn L xs d 35 118 ls st σ Q = am_li ls 4 (fun x => am_Rn L xs d 35 120 ls (.int x :: st) σ Q) := am_r_iload d35_118
theorem r35_120 {a b : Int32} : am_Rn L xs d 35 120 ls (.int b :: .int a :: st) σ Q = am_Rn L xs d 35 121 ls (.int (a * b) :: st) σ Q := am_r_imul d35_120
theorem r35_121  : am_Rn L xs d 35 121 ls st σ Q = am_li ls 3 (fun x => am_Rn L xs d 35 122 ls (.int x :: st) σ Q) := am_r_iload_n d35_121
theorem r35_122  : am_Rn L xs d 35 122 ls st σ Q = am_li ls 7 (fun x => am_Rn L xs d 35 124 ls (.int x :: st) σ Q) := am_r_iload d35_122
theorem r35_124 {a b : Int32} : am_Rn L xs d 35 124 ls (.int b :: .int a :: st) σ Q = am_Rn L xs d 35 125 ls (.int (a * b) :: st) σ Q := am_r_imul d35_124
theorem r35_125 {a b : Int32} : am_Rn L xs d 35 125 ls (.int b :: .int a :: st) σ Q = if a ≤ b then am_Rn L xs d 35 138 ls st σ Q else am_Rn L xs d 35 128 ls st σ Q := (am_r_icmp (t := 138) d35_125 (by decide)).trans (am_ite _ _ trivial (by simp only [am_cond, decide_eq_true_eq]))
theorem r35_128  : am_Rn L xs d 35 128 ls st σ Q = am_li ls 5 (fun x => am_Rn L xs d 35 130 ls (.int x :: st) σ Q) := am_r_iload d35_128
theorem r35_130 {x : Int32} : am_Rn L xs d 35 130 ls (.int x :: st) σ Q = (2 < ls.length ∧ am_Rn L xs d 35 131 (ls.set 2 (.int x)) st σ Q) := am_r_istore_n d35_130
theorem r35_131  : am_Rn L xs d 35 131 ls st σ Q = am_li ls 6 (fun x => am_Rn L xs d 35 133 ls (.int x :: st) σ Q) := am_r_iload d35_131
theorem r35_133 {x : Int32} : am_Rn L xs d 35 133 ls (.int x :: st) σ Q = (3 < ls.length ∧ am_Rn L xs d 35 134 (ls.set 3 (.int x)) st σ Q) := am_r_istore_n d35_133
theorem r35_134  : am_Rn L xs d 35 134 ls st σ Q = am_li ls 7 (fun x => am_Rn L xs d 35 136 ls (.int x :: st) σ Q) := am_r_iload d35_134
theorem r35_136 {x : Int32} : am_Rn L xs d 35 136 ls (.int x :: st) σ Q = (4 < ls.length ∧ am_Rn L xs d 35 138 (ls.set 4 (.int x)) st σ Q) := am_r_istore d35_136
theorem r35_138  : am_Rn L xs d 35 138 ls st σ Q = am_li ls 5 (fun x => am_Rn L xs d 35 141 (ls.set 5 (.int (x + 1))) st σ Q) := am_r_iinc d35_138 (by decide)
theorem r35_141  : am_Rn L xs d 35 141 ls st σ Q = am_Rn L xs d 35 10 ls st σ Q := am_r_goto d35_141 (by decide)
theorem r35_144  : am_Rn L xs d 35 144 ls st σ Q = am_li ls 2 (fun x => am_Rn L xs d 35 145 ls (.int x :: st) σ Q) := am_r_iload_n d35_144
theorem r35_145 {v : Int32} : am_Rn L xs d 35 145 ls [.int v] σ Q = Q (some (.int v)) σ := am_r_ireturn d35_145 rfl
theorem d37_0 : decode (pg_code 37) 0 = .ok (.aload_n 0, 1) := by decide +kernel
theorem d37_1 : decode (pg_code 37) 1 = .ok (.iload_n 1, 1) := by decide +kernel
theorem d37_2 : decode (pg_code 37) 2 = .ok (.iload_n 2, 1) := by decide +kernel
theorem d37_3 : decode (pg_code 37) 3 = .ok (.iconst 1, 1) := by decide +kernel
theorem d37_4 : decode (pg_code 37) 4 = .ok (.invokevirtual 123, 3) := by decide +kernel
theorem d37_7 : decode (pg_code 37) 7 = .ok (.aload_n 0, 1) := by decide +kernel
theorem d37_8 : decode (pg_code 37) 8 = .ok (.iload_n 1, 1) := by decide +kernel
theorem d37_9 : decode (pg_code 37) 9 = .ok (.iload_n 2, 1) := by decide +kernel
theorem d37_10 : decode (pg_code 37) 10 = .ok (.iconst 0, 1) := by decide +kernel
theorem d37_11 : decode (pg_code 37) 11 = .ok (.invokevirtual 123, 3) := by decide +kernel
theorem d37_14 : decode (pg_code 37) 14 = .ok (.return_, 1) := by decide +kernel
theorem e37 {b1 b2 b3 : Value} : am_Call L xs d 37 [b1, b2, b3] σ Q = am_Rn L xs d 37 0 [b1, b2, b3] [] σ Q := rfl
theorem r37_0  : am_Rn L xs d 37 0 ls st σ Q = am_la ls 0 (fun x => am_Rn L xs d 37 1 ls (x :: st) σ Q) := am_r_aload_n d37_0
theorem r37_1  : am_Rn L xs d 37 1 ls st σ Q = am_li ls 1 (fun x => am_Rn L xs d 37 2 ls (.int x :: st) σ Q) := am_r_iload_n d37_1
theorem r37_2  : am_Rn L xs d 37 2 ls st σ Q = am_li ls 2 (fun x => am_Rn L xs d 37 3 ls (.int x :: st) σ Q) := am_r_iload_n d37_2
theorem r37_3  : am_Rn L xs d 37 3 ls st σ Q = am_Rn L xs d 37 4 ls (.int 1 :: st) σ Q := am_r_iconst d37_3 (by decide)
theorem r37_4 {a1 a2 a3 : Value} {p : Nat} : am_Rn L xs (d + 1) 37 4 ls (a3 :: a2 :: a1 :: .ref p :: st) σ Q = ((am_oc σ p = 3 ∧ st.length ≤ 4 ∧ am_ok a1 = true ∧ am_ok a2 = true ∧ am_ok a3 = true) ∧ am_Call L xs d 38 [.ref p, a1, a2, a3] σ (fun r σ1 => am_Rn L xs (d + 1) 37 7 ls (r.toList ++ st) σ1 Q)) := am_R_virtual3 d37_4 rfl ⟨by decide, rfl⟩ rfl rfl (by decide)
theorem r37_7  : am_Rn L xs d 37 7 ls st σ Q = am_la ls 0 (fun x => am_Rn L xs d 37 8 ls (x :: st) σ Q) := am_r_aload_n d37_7
theorem r37_8  : am_Rn L xs d 37 8 ls st σ Q = am_li ls 1 (fun x => am_Rn L xs d 37 9 ls (.int x :: st) σ Q) := am_r_iload_n d37_8
theorem r37_9  : am_Rn L xs d 37 9 ls st σ Q = am_li ls 2 (fun x => am_Rn L xs d 37 10 ls (.int x :: st) σ Q) := am_r_iload_n d37_9
theorem r37_10  : am_Rn L xs d 37 10 ls st σ Q = am_Rn L xs d 37 11 ls (.int 0 :: st) σ Q := am_r_iconst d37_10 (by decide)
theorem r37_11 {a1 a2 a3 : Value} {p : Nat} : am_Rn L xs (d + 1) 37 11 ls (a3 :: a2 :: a1 :: .ref p :: st) σ Q = ((am_oc σ p = 3 ∧ st.length ≤ 4 ∧ am_ok a1 = true ∧ am_ok a2 = true ∧ am_ok a3 = true) ∧ am_Call L xs d 38 [.ref p, a1, a2, a3] σ (fun r σ1 => am_Rn L xs (d + 1) 37 14 ls (r.toList ++ st) σ1 Q)) := am_R_virtual3 d37_11 rfl ⟨by decide, rfl⟩ rfl rfl (by decide)
theorem r37_14  : am_Rn L xs d 37 14 ls [] σ Q = Q none σ := am_r_return d37_14 rfl
theorem d38_0 : decode (pg_code 38) 0 = .ok (.iload_n 1, 1) := by decide +kernel
theorem d38_1 : decode (pg_code 38) 1 = .ok (.iconst 1, 1) := by decide +kernel
theorem d38_2 : decode (pg_code 38) 2 = .ok (.iadd, 1) := by decide +kernel
theorem d38_3 : decode (pg_code 38) 3 = .ok (.istore 4, 2) := by decide +kernel
theorem d38_5 : decode (pg_code 38) 5 = .ok (.iload 4, 2) := by decide +kernel
theorem d38_7 : decode (pg_code 38) 7 = .ok (.aload_n 0, 1) := by decide +kernel
theorem d38_8 : decode (pg_code 38) 8 = .ok (.getfield 35, 3) := by decide +kernel
theorem d38_11 : decode (pg_code 38) 11 = .ok (.getfield 68, 3) := by decide +kernel
theorem d38_14 : decode (pg_code 38) 14 = .ok (.if_icmp .ge 61, 3) := by decide +kernel
theorem d38_17 : decode (pg_code 38) 17 = .ok (.aload_n 0, 1) := by decide +kernel
theorem d38_18 : decode (pg_code 38) 18 = .ok (.getfield 35, 3) := by decide +kernel
theorem d38_21 : decode (pg_code 38) 21 = .ok (.getfield 88, 3) := by decide +kernel
theorem d38_24 : decode (pg_code 38) 24 = .ok (.iload 4, 2) := by decide +kernel
theorem d38_26 : decode (pg_code 38) 26 = .ok (.iaload, 1) := by decide +kernel
theorem d38_27 : decode (pg_code 38) 27 = .ok (.iload_n 1, 1) := by decide +kernel
theorem d38_28 : decode (pg_code 38) 28 = .ok (.if_icmp .ne 41, 3) := by decide +kernel
theorem d38_31 : decode (pg_code 38) 31 = .ok (.aload_n 0, 1) := by decide +kernel
theorem d38_32 : decode (pg_code 38) 32 = .ok (.getfield 9, 3) := by decide +kernel
theorem d38_35 : decode (pg_code 38) 35 = .ok (.iload 4, 2) := by decide +kernel
theorem d38_37 : decode (pg_code 38) 37 = .ok (.iaload, 1) := by decide +kernel
theorem d38_38 : decode (pg_code 38) 38 = .ok (.iconst (-1), 1) := by decide +kernel
theorem d38_39 : decode (pg_code 38) 39 = .ok (.if_icmp .eq 6, 3) := by decide +kernel
theorem d38_42 : decode (pg_code 38) 42 = .ok (.goto 27, 3) := by decide +kernel
theorem d38_45 : decode (pg_code 38) 45 = .ok (.aload_n 0, 1) := by decide +kernel
theorem d38_46 : decode (pg_code 38) 46 = .ok (.iload_n 2, 1) := by decide +kernel
theorem d38_47 : decode (pg_code 38) 47 = .ok (.iload 4, 2) := by decide +kernel
theorem d38_49 : decode (pg_code 38) 49 = .ok (.iload_n 3, 1) := by decide +kernel
theorem d38_50 : decode (pg_code 38) 50 = .ok (.invokevirtual 127, 3) := by decide +kernel
theorem d38_53 : decode (pg_code 38) 53 = .ok (.istore 5, 2) := by decide +kernel
theorem d38_55 : decode (pg_code 38) 55 = .ok (.iload 5, 2) := by decide +kernel
theorem d38_57 : decode (pg_code 38) 57 = .ok (.iconst (-1), 1) := by decide +kernel
theorem d38_58 : decode (pg_code 38) 58 = .ok (.if_icmp .eq 11, 3) := by decide +kernel
theorem d38_61 : decode (pg_code 38) 61 = .ok (.aload_n 0, 1) := by decide +kernel
theorem d38_62 : decode (pg_code 38) 62 = .ok (.iload 4, 2) := by decide +kernel
theorem d38_64 : decode (pg_code 38) 64 = .ok (.iload 5, 2) := by decide +kernel
theorem d38_66 : decode (pg_code 38) 66 = .ok (.invokevirtual 98, 3) := by decide +kernel
theorem d38_69 : decode (pg_code 38) 69 = .ok (.iinc 4 1, 3) := by decide +kernel
theorem d38_72 : decode (pg_code 38) 72 = .ok (.goto (-67), 3) := by decide +kernel
theorem d38_75 : decode (pg_code 38) 75 = .ok (.return_, 1) := by decide +kernel
theorem e38 {b1 b2 b3 b4 : Value} : am_Call L xs d 38 [b1, b2, b3, b4] σ Q = am_Rn L xs d 38 0 [b1, b2, b3, b4, .retAddr 0, .retAddr 0] [] σ Q := rfl
theorem r38_0  : am_Rn L xs d 38 0 ls st σ Q = am_li ls 1 (fun x => am_Rn L xs d 38 1 ls (.int x :: st) σ Q) := am_r_iload_n d38_0
theorem r38_1  : am_Rn L xs d 38 1 ls st σ Q = am_Rn L xs d 38 2 ls (.int 1 :: st) σ Q := am_r_iconst d38_1 (by decide)
theorem r38_2 {a b : Int32} : am_Rn L xs d 38 2 ls (.int b :: .int a :: st) σ Q = am_Rn L xs d 38 3 ls (.int (a + b) :: st) σ Q := am_r_iadd d38_2
theorem r38_3 {x : Int32} : am_Rn L xs d 38 3 ls (.int x :: st) σ Q = (4 < ls.length ∧ am_Rn L xs d 38 5 (ls.set 4 (.int x)) st σ Q) := am_r_istore d38_3
theorem r38_5  : am_Rn L xs d 38 5 ls st σ Q = am_li ls 4 (fun x => am_Rn L xs d 38 7 ls (.int x :: st) σ Q) := am_r_iload d38_5
theorem r38_7  : am_Rn L xs d 38 7 ls st σ Q = am_la ls 0 (fun x => am_Rn L xs d 38 8 ls (x :: st) σ Q) := am_r_aload_n d38_7
theorem r38_8 {p : Nat} : am_Rn L xs d 38 8 ls (.ref p :: st) σ Q = am_fd σ p 3 6 (fun v => am_Rn L xs d 38 11 ls (v :: st) σ Q) := am_r_getfield d38_8 rfl
theorem r38_11 {p : Nat} : am_Rn L xs d 38 11 ls (.ref p :: st) σ Q = am_fd σ p 1 4 (fun v => am_Rn L xs d 38 14 ls (v :: st) σ Q) := am_r_getfield d38_11 rfl
theorem r38_14 {a b : Int32} : am_Rn L xs d 38 14 ls (.int b :: .int a :: st) σ Q = if b ≤ a then am_Rn L xs d 38 75 ls st σ Q else am_Rn L xs d 38 17 ls st σ Q := (am_r_icmp (t := 75) d38_14 (by decide)).trans (am_ite _ _ trivial (by simp only [am_cond, decide_eq_true_eq]))
theorem r38_17  : am_Rn L xs d 38 17 ls st σ Q = am_la ls 0 (fun x => am_Rn L xs d 38 18 ls (x :: st) σ Q) := am_r_aload_n d38_17
theorem r38_18 {p : Nat} : am_Rn L xs d 38 18 ls (.ref p :: st) σ Q = am_fd σ p 3 6 (fun v => am_Rn L xs d 38 21 ls (v :: st) σ Q) := am_r_getfield d38_18 rfl
theorem r38_21 {p : Nat} : am_Rn L xs d 38 21 ls (.ref p :: st) σ Q = am_fd σ p 1 0 (fun v => am_Rn L xs d 38 24 ls (v :: st) σ Q) := am_r_getfield d38_21 rfl
theorem r38_24  : am_Rn L xs d 38 24 ls st σ Q = am_li ls 4 (fun x => am_Rn L xs d 38 26 ls (.int x :: st) σ Q) := am_r_iload d38_24
theorem r38_26 {p : Nat} {i : Int32} : am_Rn L xs d 38 26 ls (.int i :: .ref p :: st) σ Q = am_ai 0 σ p i (fun x => am_Rn L xs d 38 27 ls (.int x :: st) σ Q) := am_r_iaload d38_26
theorem r38_27  : am_Rn L xs d 38 27 ls st σ Q = am_li ls 1 (fun x => am_Rn L xs d 38 28 ls (.int x :: st) σ Q) := am_r_iload_n d38_27
theorem r38_28 {a b : Int32} : am_Rn L xs d 38 28 ls (.int b :: .int a :: st) σ Q = if ¬ a = b then am_Rn L xs d 38 69 ls st σ Q else am_Rn L xs d 38 31 ls st σ Q := (am_r_icmp (t := 69) d38_28 (by decide)).trans (am_ite _ _ trivial (by simp only [am_cond, decide_eq_true_eq]))
theorem r38_31  : am_Rn L xs d 38 31 ls st σ Q = am_la ls 0 (fun x => am_Rn L xs d 38 32 ls (x :: st) σ Q) := am_r_aload_n d38_31
theorem r38_32 {p : Nat} : am_Rn L xs d 38 32 ls (.ref p :: st) σ Q = am_fd σ p 3 0 (fun v => am_Rn L xs d 38 35 ls (v :: st) σ Q) := am_r_getfield d38_32 rfl
theorem r38_35  : am_Rn L xs d 38 35 ls st σ Q = am_li ls 4 (fun x => am_Rn L xs d 38 37 ls (.int x :: st) σ Q) := am_r_iload d38_35
theorem r38_37 {p : Nat} {i : Int32} : am_Rn L xs d 38 37 ls (.int i :: .ref p :: st) σ Q = am_ai 0 σ p i (fun x => am_Rn L xs d 38 38 ls (.int x :: st) σ Q) := am_r_iaload d38_37
theorem r38_38  : am_Rn L xs d 38 38 ls st σ Q = am_Rn L xs d 38 39 ls (.int (-1) :: st) σ Q := am_r_iconst d38_38 (by decide)
theorem r38_39 {a b : Int32} : am_Rn L xs d 38 39 ls (.int b :: .int a :: st) σ Q = if a = b then am_Rn L xs d 38 45 ls st σ Q else am_Rn L xs d 38 42 ls st σ Q := (am_r_icmp (t := 45) d38_39 (by decide)).trans (am_ite _ _ trivial (by simp only [am_cond, decide_eq_true_eq]))
theorem r38_42  : am_Rn L xs d 38 42 ls st σ Q = am_Rn L xs d 38 69 ls st σ Q := am_r_goto d38_42 (by decide)
theorem r38_45  : am_Rn L xs d 38 45 ls st σ Q = am_la ls 0 (fun x => am_Rn L xs d 38 46 ls (x :: st) σ Q) := am_r_aload_n d38_45
theorem r38_46  : am_Rn L xs d 38 46 ls st σ Q = am_li ls 2 (fun x => am_Rn L xs d 38 47 ls (.int x :: st) σ Q) := am_r_iload_n d38_46
theorem r38_47  : am_Rn L xs d 38 47 ls st σ Q = am_li ls 4 (fun x => am_Rn L xs d 38 49 ls (.int x :: st) σ Q) := am_r_iload d38_47
theorem r38_49  : am_Rn L xs d 38 49 ls st σ Q = am_li ls 3 (fun x => am_Rn L xs d 38 50 ls (.int x :: st) σ Q) := am_r_iload_n d38_49
theorem r38_50 {a1 a2 a3 : Value} {p : Nat} : am_Rn L xs (d + 1) 38 50 ls (a3 :: a2 :: a1 :: .ref p :: st) σ Q = ((am_oc σ p = 3 ∧ st.length ≤ 4 ∧ am_ok a1 = true ∧ am_ok a2 = true ∧ am_ok a3 = true) ∧ am_Call L xs d 39 [.ref p, a1, a2, a3] σ (fun r σ1 => am_Rn L xs (d + 1) 38 53 ls (r.toList ++ st) σ1 Q)) := am_R_virtual3 d38_50 rfl ⟨by decide, rfl⟩ rfl rfl (by decide)
theorem r38_53 {x : Int32} : am_Rn L xs d 38 53 ls (.int x :: st) σ Q = (5 < ls.length ∧ am_Rn L xs d 38 55 (ls.set 5 (.int x)) st σ Q) := am_r_istore d38_53
theorem r38_55  : am_Rn L xs d 38 55 ls st σ Q = am_li ls 5 (fun x => am_Rn L xs d 38 57 ls (.int x :: st) σ Q) := am_r_iload d38_55
theorem r38_57  : am_Rn L xs d 38 57 ls st σ Q = am_Rn L xs d 38 58 ls (.int (-1) :: st) σ Q := am_r_iconst d38_57 (by decide)
theorem r38_58 {a b : Int32} : am_Rn L xs d 38 58 ls (.int b :: .int a :: st) σ Q = if a = b then am_Rn L xs d 38 69 ls st σ Q else am_Rn L xs d 38 61 ls st σ Q := (am_r_icmp (t := 69) d38_58 (by decide)).trans (am_ite _ _ trivial (by simp only [am_cond, decide_eq_true_eq]))
theorem r38_61  : am_Rn L xs d 38 61 ls st σ Q = am_la ls 0 (fun x => am_Rn L xs d 38 62 ls (x :: st) σ Q) := am_r_aload_n d38_61
theorem r38_62  : am_Rn L xs d 38 62 ls st σ Q = am_li ls 4 (fun x => am_Rn L xs d 38 64 ls (.int x :: st) σ Q) := am_r_iload d38_62
theorem r38_64  : am_Rn L xs d 38 64 ls st σ Q = am_li ls 5 (fun x => am_Rn L xs d 38 66 ls (.int x :: st) σ Q) := am_r_iload d38_64
theorem r38_66 {a1 a2 : Value} {p : Nat} : am_Rn L xs (d + 1) 38 66 ls (a2 :: a1 :: .ref p :: st) σ Q = ((am_oc σ p = 3 ∧ st.length ≤ 4 ∧ am_ok a1 = true ∧ am_ok a2 = true) ∧ am_Call L xs d 33 [.ref p, a1, a2] σ (fun r σ1 => am_Rn L xs (d + 1) 38 69 ls (r.toList ++ st) σ1 Q)) := am_R_virtual2 d38_66 rfl ⟨by decide, rfl⟩ rfl rfl (by decide)
theorem r38_69  : am_Rn L xs d 38 69 ls st σ Q = am_li ls 4 (fun x => am_Rn L xs d 38 72 (ls.set 4 (.int (x + 1))) st σ Q) := am_r_iinc d38_69 (by decide)
theorem r38_72  : am_Rn L xs d 38 72 ls st σ Q = am_Rn L xs d 38 5 ls st σ Q := am_r_goto d38_72 (by decide)
theorem r38_75  : am_Rn L xs d 38 75 ls [] σ Q = Q none σ := am_r_return d38_75 rfl
theorem d39_0 : decode (pg_code 39) 0 = .ok (.iload_n 1, 1) := by decide +kernel
theorem d39_1 : decode (pg_code 39) 1 = .ok (.iconst 1, 1) := by decide +kernel
theorem d39_2 : decode (pg_code 39) 2 = .ok (.iadd, 1) := by decide +kernel
theorem d39_3 : decode (pg_code 39) 3 = .ok (.istore 4, 2) := by decide +kernel
theorem d39_5 : decode (pg_code 39) 5 = .ok (.iload 4, 2) := by decide +kernel
theorem d39_7 : decode (pg_code 39) 7 = .ok (.aload_n 0, 1) := by decide +kernel
theorem d39_8 : decode (pg_code 39) 8 = .ok (.getfield 39, 3) := by decide +kernel
theorem d39_11 : decode (pg_code 39) 11 = .ok (.getfield 68, 3) := by decide +kernel
theorem d39_14 : decode (pg_code 39) 14 = .ok (.if_icmp .ge 121, 3) := by decide +kernel
theorem d39_17 : decode (pg_code 39) 17 = .ok (.aload_n 0, 1) := by decide +kernel
theorem d39_18 : decode (pg_code 39) 18 = .ok (.getfield 39, 3) := by decide +kernel
theorem d39_21 : decode (pg_code 39) 21 = .ok (.getfield 88, 3) := by decide +kernel
theorem d39_24 : decode (pg_code 39) 24 = .ok (.iload 4, 2) := by decide +kernel
theorem d39_26 : decode (pg_code 39) 26 = .ok (.iaload, 1) := by decide +kernel
theorem d39_27 : decode (pg_code 39) 27 = .ok (.iload_n 1, 1) := by decide +kernel
theorem d39_28 : decode (pg_code 39) 28 = .ok (.if_icmp .ne 18, 3) := by decide +kernel
theorem d39_31 : decode (pg_code 39) 31 = .ok (.aload_n 0, 1) := by decide +kernel
theorem d39_32 : decode (pg_code 39) 32 = .ok (.getfield 15, 3) := by decide +kernel
theorem d39_35 : decode (pg_code 39) 35 = .ok (.iload 4, 2) := by decide +kernel
theorem d39_37 : decode (pg_code 39) 37 = .ok (.iaload, 1) := by decide +kernel
theorem d39_38 : decode (pg_code 39) 38 = .ok (.iconst (-1), 1) := by decide +kernel
theorem d39_39 : decode (pg_code 39) 39 = .ok (.if_icmp .ne 7, 3) := by decide +kernel
theorem d39_42 : decode (pg_code 39) 42 = .ok (.iconst 1, 1) := by decide +kernel
theorem d39_43 : decode (pg_code 39) 43 = .ok (.goto 4, 3) := by decide +kernel
theorem d39_46 : decode (pg_code 39) 46 = .ok (.iconst 0, 1) := by decide +kernel
theorem d39_47 : decode (pg_code 39) 47 = .ok (.istore 5, 2) := by decide +kernel
theorem d39_49 : decode (pg_code 39) 49 = .ok (.aload_n 0, 1) := by decide +kernel
theorem d39_50 : decode (pg_code 39) 50 = .ok (.getfield 39, 3) := by decide +kernel
theorem d39_53 : decode (pg_code 39) 53 = .ok (.getfield 115, 3) := by decide +kernel
theorem d39_56 : decode (pg_code 39) 56 = .ok (.iload 4, 2) := by decide +kernel
theorem d39_58 : decode (pg_code 39) 58 = .ok (.iaload, 1) := by decide +kernel
theorem d39_59 : decode (pg_code 39) 59 = .ok (.aload_n 0, 1) := by decide +kernel
theorem d39_60 : decode (pg_code 39) 60 = .ok (.getfield 35, 3) := by decide +kernel
theorem d39_63 : decode (pg_code 39) 63 = .ok (.getfield 115, 3) := by decide +kernel
theorem d39_66 : decode (pg_code 39) 66 = .ok (.iload_n 2, 1) := by decide +kernel
theorem d39_67 : decode (pg_code 39) 67 = .ok (.iaload, 1) := by decide +kernel
theorem d39_68 : decode (pg_code 39) 68 = .ok (.if_icmp .ne 7, 3) := by decide +kernel
theorem d39_71 : decode (pg_code 39) 71 = .ok (.iconst 1, 1) := by decide +kernel
theorem d39_72 : decode (pg_code 39) 72 = .ok (.goto 4, 3) := by decide +kernel
theorem d39_75 : decode (pg_code 39) 75 = .ok (.iconst 0, 1) := by decide +kernel
theorem d39_76 : decode (pg_code 39) 76 = .ok (.istore 6, 2) := by decide +kernel
theorem d39_78 : decode (pg_code 39) 78 = .ok (.iload_n 3, 1) := by decide +kernel
theorem d39_79 : decode (pg_code 39) 79 = .ok (.ifCond .eq 25, 3) := by decide +kernel
theorem d39_82 : decode (pg_code 39) 82 = .ok (.aload_n 0, 1) := by decide +kernel
theorem d39_83 : decode (pg_code 39) 83 = .ok (.getfield 39, 3) := by decide +kernel
theorem d39_86 : decode (pg_code 39) 86 = .ok (.getfield 131, 3) := by decide +kernel
theorem d39_89 : decode (pg_code 39) 89 = .ok (.iload 4, 2) := by decide +kernel
theorem d39_91 : decode (pg_code 39) 91 = .ok (.iaload, 1) := by decide +kernel
theorem d39_92 : decode (pg_code 39) 92 = .ok (.aload_n 0, 1) := by decide +kernel
theorem d39_93 : decode (pg_code 39) 93 = .ok (.getfield 35, 3) := by decide +kernel
theorem d39_96 : decode (pg_code 39) 96 = .ok (.getfield 131, 3) := by decide +kernel
theorem d39_99 : decode (pg_code 39) 99 = .ok (.iload_n 2, 1) := by decide +kernel
theorem d39_100 : decode (pg_code 39) 100 = .ok (.iaload, 1) := by decide +kernel
theorem d39_101 : decode (pg_code 39) 101 = .ok (.if_icmp .ne 7, 3) := by decide +kernel
theorem d39_104 : decode (pg_code 39) 104 = .ok (.iconst 1, 1) := by decide +kernel
theorem d39_105 : decode (pg_code 39) 105 = .ok (.goto 4, 3) := by decide +kernel
theorem d39_108 : decode (pg_code 39) 108 = .ok (.iconst 0, 1) := by decide +kernel
theorem d39_109 : decode (pg_code 39) 109 = .ok (.istore 7, 2) := by decide +kernel
theorem d39_111 : decode (pg_code 39) 111 = .ok (.iload 5, 2) := by decide +kernel
theorem d39_113 : decode (pg_code 39) 113 = .ok (.ifCond .eq 16, 3) := by decide +kernel
theorem d39_116 : decode (pg_code 39) 116 = .ok (.iload 6, 2) := by decide +kernel
theorem d39_118 : decode (pg_code 39) 118 = .ok (.ifCond .eq 11, 3) := by decide +kernel
theorem d39_121 : decode (pg_code 39) 121 = .ok (.iload 7, 2) := by decide +kernel
theorem d39_123 : decode (pg_code 39) 123 = .ok (.ifCond .eq 6, 3) := by decide +kernel
theorem d39_126 : decode (pg_code 39) 126 = .ok (.iload 4, 2) := by decide +kernel
theorem d39_128 : decode (pg_code 39) 128 = .ok (.ireturn, 1) := by decide +kernel
theorem d39_129 : decode (pg_code 39) 129 = .ok (.iinc 4 1, 3) := by decide +kernel
theorem d39_132 : decode (pg_code 39) 132 = .ok (.goto (-127), 3) := by decide +kernel
theorem d39_135 : decode (pg_code 39) 135 = .ok (.iconst (-1), 1) := by decide +kernel
theorem d39_136 : decode (pg_code 39) 136 = .ok (.ireturn, 1) := by decide +kernel
theorem e39 {b1 b2 b3 b4 : Value} : am_Call L xs d 39 [b1, b2, b3, b4] σ Q = am_Rn L xs d 39 0 [b1, b2, b3, b4, .retAddr 0, .retAddr 0, .retAddr 0, .retAddr 0] [] σ Q := rfl
theorem r39_0  : am_Rn L xs d 39 0 ls st σ Q = am_li ls 1 (fun x => am_Rn L xs d 39 1 ls (.int x :: st) σ Q) := am_r_iload_n d39_0
theorem r39_1  : am_Rn L xs d 39 1 ls st σ Q = am_Rn L xs d 39 2 ls (.int 1 :: st) σ Q := am_r_iconst d39_1 (by decide)
theorem r39_2 {a b : Int32} : am_Rn L xs d 39 2 ls (.int b :: .int a :: st) σ Q = am_Rn L xs d 39 3 ls (.int (a + b) :: st) σ Q := am_r_iadd d39_2
theorem r39_3 {x : Int32} : am_Rn L xs d 39 3 ls (.int x :: st) σ Q = (4 < ls.length ∧ am_Rn L xs d 39 5 (ls.set 4 (.int x)) st σ Q) := am_r_istore d39_3
theorem r39_5  : am_Rn L xs d 39 5 ls st σ Q = am_li ls 4 (fun x => am_Rn L xs d 39 7 ls (.int x :: st) σ Q) := am_r_iload d39_5
theorem r39_7  : am_Rn L xs d 39 7 ls st σ Q = am_la ls 0 (fun x => am_Rn L xs d 39 8 ls (x :: st) σ Q) := am_r_aload_n d39_7
theorem r39_8 {p : Nat} : am_Rn L xs d 39 8 ls (.ref p :: st) σ Q = am_fd σ p 3 7 (fun v => am_Rn L xs d 39 11 ls (v :: st) σ Q) := am_r_getfield d39_8 rfl
theorem r39_11 {p : Nat} : am_Rn L xs d 39 11 ls (.ref p :: st) σ Q = am_fd σ p 1 4 (fun v => am_Rn L xs d 39 14 ls (v :: st) σ Q) := am_r_getfield d39_11 rfl
theorem r39_14 {a b : Int32} : am_Rn L xs d 39 14 ls (.int b :: .int a :: st) σ Q = if b ≤ a then am_Rn L xs d 39 135 ls st σ Q else am_Rn L xs d 39 17 ls st σ Q := (am_r_icmp (t := 135) d39_14 (by decide)).trans (am_ite _ _ trivial (by simp only [am_cond, decide_eq_true_eq]))
theorem r39_17  : am_Rn L xs d 39 17 ls st σ Q = am_la ls 0 (fun x => am_Rn L xs d 39 18 ls (x :: st) σ Q) := am_r_aload_n d39_17
theorem r39_18 {p : Nat} : am_Rn L xs d 39 18 ls (.ref p :: st) σ Q = am_fd σ p 3 7 (fun v => am_Rn L xs d 39 21 ls (v :: st) σ Q) := am_r_getfield d39_18 rfl
theorem r39_21 {p : Nat} : am_Rn L xs d 39 21 ls (.ref p :: st) σ Q = am_fd σ p 1 0 (fun v => am_Rn L xs d 39 24 ls (v :: st) σ Q) := am_r_getfield d39_21 rfl
theorem r39_24  : am_Rn L xs d 39 24 ls st σ Q = am_li ls 4 (fun x => am_Rn L xs d 39 26 ls (.int x :: st) σ Q) := am_r_iload d39_24
theorem r39_26 {p : Nat} {i : Int32} : am_Rn L xs d 39 26 ls (.int i :: .ref p :: st) σ Q = am_ai 0 σ p i (fun x => am_Rn L xs d 39 27 ls (.int x :: st) σ Q) := am_r_iaload d39_26
theorem r39_27  : am_Rn L xs d 39 27 ls st σ Q = am_li ls 1 (fun x => am_Rn L xs d 39 28 ls (.int x :: st) σ Q) := am_r_iload_n d39_27
theorem r39_28 {a b : Int32} : am_Rn L xs d 39 28 ls (.int b :: .int a :: st) σ Q = if ¬ a = b then am_Rn L xs d 39 46 ls st σ Q else am_Rn L xs d 39 31 ls st σ Q := (am_r_icmp (t := 46) d39_28 (by decide)).trans (am_ite _ _ trivial (by simp only [am_cond, decide_eq_true_eq]))
theorem r39_31  : am_Rn L xs d 39 31 ls st σ Q = am_la ls 0 (fun x => am_Rn L xs d 39 32 ls (x :: st) σ Q) := am_r_aload_n d39_31
theorem r39_32 {p : Nat} : am_Rn L xs d 39 32 ls (.ref p :: st) σ Q = am_fd σ p 3 1 (fun v => am_Rn L xs d 39 35 ls (v :: st) σ Q) := am_r_getfield d39_32 rfl
theorem r39_35  : am_Rn L xs d 39 35 ls st σ Q = am_li ls 4 (fun x => am_Rn L xs d 39 37 ls (.int x :: st) σ Q) := am_r_iload d39_35
theorem r39_37 {p : Nat} {i : Int32} : am_Rn L xs d 39 37 ls (.int i :: .ref p :: st) σ Q = am_ai 0 σ p i (fun x => am_Rn L xs d 39 38 ls (.int x :: st) σ Q) := am_r_iaload d39_37
theorem r39_38  : am_Rn L xs d 39 38 ls st σ Q = am_Rn L xs d 39 39 ls (.int (-1) :: st) σ Q := am_r_iconst d39_38 (by decide)
theorem r39_39 {a b : Int32} : am_Rn L xs d 39 39 ls (.int b :: .int a :: st) σ Q = if ¬ a = b then am_Rn L xs d 39 46 ls st σ Q else am_Rn L xs d 39 42 ls st σ Q := (am_r_icmp (t := 46) d39_39 (by decide)).trans (am_ite _ _ trivial (by simp only [am_cond, decide_eq_true_eq]))
theorem r39_42  : am_Rn L xs d 39 42 ls st σ Q = am_Rn L xs d 39 43 ls (.int 1 :: st) σ Q := am_r_iconst d39_42 (by decide)
theorem r39_43  : am_Rn L xs d 39 43 ls st σ Q = am_Rn L xs d 39 47 ls st σ Q := am_r_goto d39_43 (by decide)
theorem r39_46  : am_Rn L xs d 39 46 ls st σ Q = am_Rn L xs d 39 47 ls (.int 0 :: st) σ Q := am_r_iconst d39_46 (by decide)
theorem r39_47 {x : Int32} : am_Rn L xs d 39 47 ls (.int x :: st) σ Q = (5 < ls.length ∧ am_Rn L xs d 39 49 (ls.set 5 (.int x)) st σ Q) := am_r_istore d39_47
theorem r39_49  : am_Rn L xs d 39 49 ls st σ Q = am_la ls 0 (fun x => am_Rn L xs d 39 50 ls (x :: st) σ Q) := am_r_aload_n d39_49
theorem r39_50 {p : Nat} : am_Rn L xs d 39 50 ls (.ref p :: st) σ Q = am_fd σ p 3 7 (fun v => am_Rn L xs d 39 53 ls (v :: st) σ Q) := am_r_getfield d39_50 rfl
theorem r39_53 {p : Nat} : am_Rn L xs d 39 53 ls (.ref p :: st) σ Q = am_fd σ p 1 2 (fun v => am_Rn L xs d 39 56 ls (v :: st) σ Q) := am_r_getfield d39_53 rfl
theorem r39_56  : am_Rn L xs d 39 56 ls st σ Q = am_li ls 4 (fun x => am_Rn L xs d 39 58 ls (.int x :: st) σ Q) := am_r_iload d39_56
theorem r39_58 {p : Nat} {i : Int32} : am_Rn L xs d 39 58 ls (.int i :: .ref p :: st) σ Q = am_ai 0 σ p i (fun x => am_Rn L xs d 39 59 ls (.int x :: st) σ Q) := am_r_iaload d39_58
theorem r39_59  : am_Rn L xs d 39 59 ls st σ Q = am_la ls 0 (fun x => am_Rn L xs d 39 60 ls (x :: st) σ Q) := am_r_aload_n d39_59
theorem r39_60 {p : Nat} : am_Rn L xs d 39 60 ls (.ref p :: st) σ Q = am_fd σ p 3 6 (fun v => am_Rn L xs d 39 63 ls (v :: st) σ Q) := am_r_getfield d39_60 rfl
theorem r39_63 {p : Nat} : am_Rn L xs d 39 63 ls (.ref p :: st) σ Q = am_fd σ p 1 2 (fun v => am_Rn L xs d 39 66 ls (v :: st) σ Q) := am_r_getfield d39_63 rfl
theorem r39_66  : am_Rn L xs d 39 66 ls st σ Q = am_li ls 2 (fun x => am_Rn L xs d 39 67 ls (.int x :: st) σ Q) := am_r_iload_n d39_66
theorem r39_67 {p : Nat} {i : Int32} : am_Rn L xs d 39 67 ls (.int i :: .ref p :: st) σ Q = am_ai 0 σ p i (fun x => am_Rn L xs d 39 68 ls (.int x :: st) σ Q) := am_r_iaload d39_67
theorem r39_68 {a b : Int32} : am_Rn L xs d 39 68 ls (.int b :: .int a :: st) σ Q = if ¬ a = b then am_Rn L xs d 39 75 ls st σ Q else am_Rn L xs d 39 71 ls st σ Q := (am_r_icmp (t := 75) d39_68 (by decide)).trans (am_ite _ _ trivial (by simp only [am_cond, decide_eq_true_eq]))
theorem r39_71  : am_Rn L xs d 39 71 ls st σ Q = am_Rn L xs d 39 72 ls (.int 1 :: st) σ Q := am_r_iconst d39_71 (by decide)
theorem r39_72  : am_Rn L xs d 39 72 ls st σ Q = am_Rn L xs d 39 76 ls st σ Q := am_r_goto d39_72 (by decide)
theorem r39_75  : am_Rn L xs d 39 75 ls st σ Q = am_Rn L xs d 39 76 ls (.int 0 :: st) σ Q := am_r_iconst d39_75 (by decide)
theorem r39_76 {x : Int32} : am_Rn L xs d 39 76 ls (.int x :: st) σ Q = (6 < ls.length ∧ am_Rn L xs d 39 78 (ls.set 6 (.int x)) st σ Q) := am_r_istore d39_76
theorem r39_78  : am_Rn L xs d 39 78 ls st σ Q = am_li ls 3 (fun x => am_Rn L xs d 39 79 ls (.int x :: st) σ Q) := am_r_iload_n d39_78
theorem r39_79 {a : Int32} : am_Rn L xs d 39 79 ls (.int a :: st) σ Q = if a = 0 then am_Rn L xs d 39 104 ls st σ Q else am_Rn L xs d 39 82 ls st σ Q := (am_r_if (t := 104) d39_79 (by decide)).trans (am_ite _ _ trivial (by simp only [am_cond, decide_eq_true_eq]))
theorem r39_82  : am_Rn L xs d 39 82 ls st σ Q = am_la ls 0 (fun x => am_Rn L xs d 39 83 ls (x :: st) σ Q) := am_r_aload_n d39_82
theorem r39_83 {p : Nat} : am_Rn L xs d 39 83 ls (.ref p :: st) σ Q = am_fd σ p 3 7 (fun v => am_Rn L xs d 39 86 ls (v :: st) σ Q) := am_r_getfield d39_83 rfl
theorem r39_86 {p : Nat} : am_Rn L xs d 39 86 ls (.ref p :: st) σ Q = am_fd σ p 1 3 (fun v => am_Rn L xs d 39 89 ls (v :: st) σ Q) := am_r_getfield d39_86 rfl
theorem r39_89  : am_Rn L xs d 39 89 ls st σ Q = am_li ls 4 (fun x => am_Rn L xs d 39 91 ls (.int x :: st) σ Q) := am_r_iload d39_89
theorem r39_91 {p : Nat} {i : Int32} : am_Rn L xs d 39 91 ls (.int i :: .ref p :: st) σ Q = am_ai 0 σ p i (fun x => am_Rn L xs d 39 92 ls (.int x :: st) σ Q) := am_r_iaload d39_91
theorem r39_92  : am_Rn L xs d 39 92 ls st σ Q = am_la ls 0 (fun x => am_Rn L xs d 39 93 ls (x :: st) σ Q) := am_r_aload_n d39_92
theorem r39_93 {p : Nat} : am_Rn L xs d 39 93 ls (.ref p :: st) σ Q = am_fd σ p 3 6 (fun v => am_Rn L xs d 39 96 ls (v :: st) σ Q) := am_r_getfield d39_93 rfl
theorem r39_96 {p : Nat} : am_Rn L xs d 39 96 ls (.ref p :: st) σ Q = am_fd σ p 1 3 (fun v => am_Rn L xs d 39 99 ls (v :: st) σ Q) := am_r_getfield d39_96 rfl
theorem r39_99  : am_Rn L xs d 39 99 ls st σ Q = am_li ls 2 (fun x => am_Rn L xs d 39 100 ls (.int x :: st) σ Q) := am_r_iload_n d39_99
theorem r39_100 {p : Nat} {i : Int32} : am_Rn L xs d 39 100 ls (.int i :: .ref p :: st) σ Q = am_ai 0 σ p i (fun x => am_Rn L xs d 39 101 ls (.int x :: st) σ Q) := am_r_iaload d39_100
theorem r39_101 {a b : Int32} : am_Rn L xs d 39 101 ls (.int b :: .int a :: st) σ Q = if ¬ a = b then am_Rn L xs d 39 108 ls st σ Q else am_Rn L xs d 39 104 ls st σ Q := (am_r_icmp (t := 108) d39_101 (by decide)).trans (am_ite _ _ trivial (by simp only [am_cond, decide_eq_true_eq]))
theorem r39_104  : am_Rn L xs d 39 104 ls st σ Q = am_Rn L xs d 39 105 ls (.int 1 :: st) σ Q := am_r_iconst d39_104 (by decide)
theorem r39_105  : am_Rn L xs d 39 105 ls st σ Q = am_Rn L xs d 39 109 ls st σ Q := am_r_goto d39_105 (by decide)
theorem r39_108  : am_Rn L xs d 39 108 ls st σ Q = am_Rn L xs d 39 109 ls (.int 0 :: st) σ Q := am_r_iconst d39_108 (by decide)
theorem r39_109 {x : Int32} : am_Rn L xs d 39 109 ls (.int x :: st) σ Q = (7 < ls.length ∧ am_Rn L xs d 39 111 (ls.set 7 (.int x)) st σ Q) := am_r_istore d39_109
theorem r39_111  : am_Rn L xs d 39 111 ls st σ Q = am_li ls 5 (fun x => am_Rn L xs d 39 113 ls (.int x :: st) σ Q) := am_r_iload d39_111
theorem r39_113 {a : Int32} : am_Rn L xs d 39 113 ls (.int a :: st) σ Q = if a = 0 then am_Rn L xs d 39 129 ls st σ Q else am_Rn L xs d 39 116 ls st σ Q := (am_r_if (t := 129) d39_113 (by decide)).trans (am_ite _ _ trivial (by simp only [am_cond, decide_eq_true_eq]))
theorem r39_116  : am_Rn L xs d 39 116 ls st σ Q = am_li ls 6 (fun x => am_Rn L xs d 39 118 ls (.int x :: st) σ Q) := am_r_iload d39_116
theorem r39_118 {a : Int32} : am_Rn L xs d 39 118 ls (.int a :: st) σ Q = if a = 0 then am_Rn L xs d 39 129 ls st σ Q else am_Rn L xs d 39 121 ls st σ Q := (am_r_if (t := 129) d39_118 (by decide)).trans (am_ite _ _ trivial (by simp only [am_cond, decide_eq_true_eq]))
theorem r39_121  : am_Rn L xs d 39 121 ls st σ Q = am_li ls 7 (fun x => am_Rn L xs d 39 123 ls (.int x :: st) σ Q) := am_r_iload d39_121
theorem r39_123 {a : Int32} : am_Rn L xs d 39 123 ls (.int a :: st) σ Q = if a = 0 then am_Rn L xs d 39 129 ls st σ Q else am_Rn L xs d 39 126 ls st σ Q := (am_r_if (t := 129) d39_123 (by decide)).trans (am_ite _ _ trivial (by simp only [am_cond, decide_eq_true_eq]))
theorem r39_126  : am_Rn L xs d 39 126 ls st σ Q = am_li ls 4 (fun x => am_Rn L xs d 39 128 ls (.int x :: st) σ Q) := am_r_iload d39_126
theorem r39_128 {v : Int32} : am_Rn L xs d 39 128 ls [.int v] σ Q = Q (some (.int v)) σ := am_r_ireturn d39_128 rfl
theorem r39_129  : am_Rn L xs d 39 129 ls st σ Q = am_li ls 4 (fun x => am_Rn L xs d 39 132 (ls.set 4 (.int (x + 1))) st σ Q) := am_r_iinc d39_129 (by decide)
theorem r39_132  : am_Rn L xs d 39 132 ls st σ Q = am_Rn L xs d 39 5 ls st σ Q := am_r_goto d39_132 (by decide)
theorem r39_135  : am_Rn L xs d 39 135 ls st σ Q = am_Rn L xs d 39 136 ls (.int (-1) :: st) σ Q := am_r_iconst d39_135 (by decide)
theorem r39_136 {v : Int32} : am_Rn L xs d 39 136 ls [.int v] σ Q = Q (some (.int v)) σ := am_r_ireturn d39_136 rfl
theorem d40_0 : decode (pg_code 40) 0 = .ok (.aload_n 0, 1) := by decide +kernel
theorem d40_1 : decode (pg_code 40) 1 = .ok (.getfield 9, 3) := by decide +kernel
theorem d40_4 : decode (pg_code 40) 4 = .ok (.iconst 0, 1) := by decide +kernel
theorem d40_5 : decode (pg_code 40) 5 = .ok (.iaload, 1) := by decide +kernel
theorem d40_6 : decode (pg_code 40) 6 = .ok (.iconst (-1), 1) := by decide +kernel
theorem d40_7 : decode (pg_code 40) 7 = .ok (.if_icmp .ne 17, 3) := by decide +kernel
theorem d40_10 : decode (pg_code 40) 10 = .ok (.aload_n 0, 1) := by decide +kernel
theorem d40_11 : decode (pg_code 40) 11 = .ok (.getfield 15, 3) := by decide +kernel
theorem d40_14 : decode (pg_code 40) 14 = .ok (.iconst 0, 1) := by decide +kernel
theorem d40_15 : decode (pg_code 40) 15 = .ok (.iaload, 1) := by decide +kernel
theorem d40_16 : decode (pg_code 40) 16 = .ok (.iconst (-1), 1) := by decide +kernel
theorem d40_17 : decode (pg_code 40) 17 = .ok (.if_icmp .ne 7, 3) := by decide +kernel
theorem d40_20 : decode (pg_code 40) 20 = .ok (.iconst 1, 1) := by decide +kernel
theorem d40_21 : decode (pg_code 40) 21 = .ok (.goto 4, 3) := by decide +kernel
theorem d40_24 : decode (pg_code 40) 24 = .ok (.iconst 0, 1) := by decide +kernel
theorem d40_25 : decode (pg_code 40) 25 = .ok (.istore_n 1, 1) := by decide +kernel
theorem d40_26 : decode (pg_code 40) 26 = .ok (.iload_n 1, 1) := by decide +kernel
theorem d40_27 : decode (pg_code 40) 27 = .ok (.ifCond .eq 36, 3) := by decide +kernel
theorem d40_30 : decode (pg_code 40) 30 = .ok (.aload_n 0, 1) := by decide +kernel
theorem d40_31 : decode (pg_code 40) 31 = .ok (.getfield 35, 3) := by decide +kernel
theorem d40_34 : decode (pg_code 40) 34 = .ok (.getfield 115, 3) := by decide +kernel
theorem d40_37 : decode (pg_code 40) 37 = .ok (.iconst 0, 1) := by decide +kernel
theorem d40_38 : decode (pg_code 40) 38 = .ok (.iaload, 1) := by decide +kernel
theorem d40_39 : decode (pg_code 40) 39 = .ok (.aload_n 0, 1) := by decide +kernel
theorem d40_40 : decode (pg_code 40) 40 = .ok (.getfield 39, 3) := by decide +kernel
theorem d40_43 : decode (pg_code 40) 43 = .ok (.getfield 115, 3) := by decide +kernel
theorem d40_46 : decode (pg_code 40) 46 = .ok (.iconst 0, 1) := by decide +kernel
theorem d40_47 : decode (pg_code 40) 47 = .ok (.iaload, 1) := by decide +kernel
theorem d40_48 : decode (pg_code 40) 48 = .ok (.if_icmp .ne 15, 3) := by decide +kernel
theorem d40_51 : decode (pg_code 40) 51 = .ok (.aload_n 0, 1) := by decide +kernel
theorem d40_52 : decode (pg_code 40) 52 = .ok (.iconst 0, 1) := by decide +kernel
theorem d40_53 : decode (pg_code 40) 53 = .ok (.iconst 0, 1) := by decide +kernel
theorem d40_54 : decode (pg_code 40) 54 = .ok (.invokevirtual 98, 3) := by decide +kernel
theorem d40_57 : decode (pg_code 40) 57 = .ok (.aload_n 0, 1) := by decide +kernel
theorem d40_58 : decode (pg_code 40) 58 = .ok (.iconst 0, 1) := by decide +kernel
theorem d40_59 : decode (pg_code 40) 59 = .ok (.iconst 0, 1) := by decide +kernel
theorem d40_60 : decode (pg_code 40) 60 = .ok (.invokevirtual 112, 3) := by decide +kernel
theorem d40_63 : decode (pg_code 40) 63 = .ok (.return_, 1) := by decide +kernel
theorem e40 {b1 : Value} : am_Call L xs d 40 [b1] σ Q = am_Rn L xs d 40 0 [b1, .retAddr 0] [] σ Q := rfl
theorem r40_0  : am_Rn L xs d 40 0 ls st σ Q = am_la ls 0 (fun x => am_Rn L xs d 40 1 ls (x :: st) σ Q) := am_r_aload_n d40_0
theorem r40_1 {p : Nat} : am_Rn L xs d 40 1 ls (.ref p :: st) σ Q = am_fd σ p 3 0 (fun v => am_Rn L xs d 40 4 ls (v :: st) σ Q) := am_r_getfield d40_1 rfl
theorem r40_4  : am_Rn L xs d 40 4 ls st σ Q = am_Rn L xs d 40 5 ls (.int 0 :: st) σ Q := am_r_iconst d40_4 (by decide)
theorem r40_5 {p : Nat} {i : Int32} : am_Rn L xs d 40 5 ls (.int i :: .ref p :: st) σ Q = am_ai 0 σ p i (fun x => am_Rn L xs d 40 6 ls (.int x :: st) σ Q) := am_r_iaload d40_5
theorem r40_6  : am_Rn L xs d 40 6 ls st σ Q = am_Rn L xs d 40 7 ls (.int (-1) :: st) σ Q := am_r_iconst d40_6 (by decide)
theorem r40_7 {a b : Int32} : am_Rn L xs d 40 7 ls (.int b :: .int a :: st) σ Q = if ¬ a = b then am_Rn L xs d 40 24 ls st σ Q else am_Rn L xs d 40 10 ls st σ Q := (am_r_icmp (t := 24) d40_7 (by decide)).trans (am_ite _ _ trivial (by simp only [am_cond, decide_eq_true_eq]))
theorem r40_10  : am_Rn L xs d 40 10 ls st σ Q = am_la ls 0 (fun x => am_Rn L xs d 40 11 ls (x :: st) σ Q) := am_r_aload_n d40_10
theorem r40_11 {p : Nat} : am_Rn L xs d 40 11 ls (.ref p :: st) σ Q = am_fd σ p 3 1 (fun v => am_Rn L xs d 40 14 ls (v :: st) σ Q) := am_r_getfield d40_11 rfl
theorem r40_14  : am_Rn L xs d 40 14 ls st σ Q = am_Rn L xs d 40 15 ls (.int 0 :: st) σ Q := am_r_iconst d40_14 (by decide)
theorem r40_15 {p : Nat} {i : Int32} : am_Rn L xs d 40 15 ls (.int i :: .ref p :: st) σ Q = am_ai 0 σ p i (fun x => am_Rn L xs d 40 16 ls (.int x :: st) σ Q) := am_r_iaload d40_15
theorem r40_16  : am_Rn L xs d 40 16 ls st σ Q = am_Rn L xs d 40 17 ls (.int (-1) :: st) σ Q := am_r_iconst d40_16 (by decide)
theorem r40_17 {a b : Int32} : am_Rn L xs d 40 17 ls (.int b :: .int a :: st) σ Q = if ¬ a = b then am_Rn L xs d 40 24 ls st σ Q else am_Rn L xs d 40 20 ls st σ Q := (am_r_icmp (t := 24) d40_17 (by decide)).trans (am_ite _ _ trivial (by simp only [am_cond, decide_eq_true_eq]))
theorem r40_20  : am_Rn L xs d 40 20 ls st σ Q = am_Rn L xs d 40 21 ls (.int 1 :: st) σ Q := am_r_iconst d40_20 (by decide)
theorem r40_21  : am_Rn L xs d 40 21 ls st σ Q = am_Rn L xs d 40 25 ls st σ Q := am_r_goto d40_21 (by decide)
theorem r40_24  : am_Rn L xs d 40 24 ls st σ Q = am_Rn L xs d 40 25 ls (.int 0 :: st) σ Q := am_r_iconst d40_24 (by decide)
theorem r40_25 {x : Int32} : am_Rn L xs d 40 25 ls (.int x :: st) σ Q = (1 < ls.length ∧ am_Rn L xs d 40 26 (ls.set 1 (.int x)) st σ Q) := am_r_istore_n d40_25
theorem r40_26  : am_Rn L xs d 40 26 ls st σ Q = am_li ls 1 (fun x => am_Rn L xs d 40 27 ls (.int x :: st) σ Q) := am_r_iload_n d40_26
theorem r40_27 {a : Int32} : am_Rn L xs d 40 27 ls (.int a :: st) σ Q = if a = 0 then am_Rn L xs d 40 63 ls st σ Q else am_Rn L xs d 40 30 ls st σ Q := (am_r_if (t := 63) d40_27 (by decide)).trans (am_ite _ _ trivial (by simp only [am_cond, decide_eq_true_eq]))
theorem r40_30  : am_Rn L xs d 40 30 ls st σ Q = am_la ls 0 (fun x => am_Rn L xs d 40 31 ls (x :: st) σ Q) := am_r_aload_n d40_30
theorem r40_31 {p : Nat} : am_Rn L xs d 40 31 ls (.ref p :: st) σ Q = am_fd σ p 3 6 (fun v => am_Rn L xs d 40 34 ls (v :: st) σ Q) := am_r_getfield d40_31 rfl
theorem r40_34 {p : Nat} : am_Rn L xs d 40 34 ls (.ref p :: st) σ Q = am_fd σ p 1 2 (fun v => am_Rn L xs d 40 37 ls (v :: st) σ Q) := am_r_getfield d40_34 rfl
theorem r40_37  : am_Rn L xs d 40 37 ls st σ Q = am_Rn L xs d 40 38 ls (.int 0 :: st) σ Q := am_r_iconst d40_37 (by decide)
theorem r40_38 {p : Nat} {i : Int32} : am_Rn L xs d 40 38 ls (.int i :: .ref p :: st) σ Q = am_ai 0 σ p i (fun x => am_Rn L xs d 40 39 ls (.int x :: st) σ Q) := am_r_iaload d40_38
theorem r40_39  : am_Rn L xs d 40 39 ls st σ Q = am_la ls 0 (fun x => am_Rn L xs d 40 40 ls (x :: st) σ Q) := am_r_aload_n d40_39
theorem r40_40 {p : Nat} : am_Rn L xs d 40 40 ls (.ref p :: st) σ Q = am_fd σ p 3 7 (fun v => am_Rn L xs d 40 43 ls (v :: st) σ Q) := am_r_getfield d40_40 rfl
theorem r40_43 {p : Nat} : am_Rn L xs d 40 43 ls (.ref p :: st) σ Q = am_fd σ p 1 2 (fun v => am_Rn L xs d 40 46 ls (v :: st) σ Q) := am_r_getfield d40_43 rfl
theorem r40_46  : am_Rn L xs d 40 46 ls st σ Q = am_Rn L xs d 40 47 ls (.int 0 :: st) σ Q := am_r_iconst d40_46 (by decide)
theorem r40_47 {p : Nat} {i : Int32} : am_Rn L xs d 40 47 ls (.int i :: .ref p :: st) σ Q = am_ai 0 σ p i (fun x => am_Rn L xs d 40 48 ls (.int x :: st) σ Q) := am_r_iaload d40_47
theorem r40_48 {a b : Int32} : am_Rn L xs d 40 48 ls (.int b :: .int a :: st) σ Q = if ¬ a = b then am_Rn L xs d 40 63 ls st σ Q else am_Rn L xs d 40 51 ls st σ Q := (am_r_icmp (t := 63) d40_48 (by decide)).trans (am_ite _ _ trivial (by simp only [am_cond, decide_eq_true_eq]))
theorem r40_51  : am_Rn L xs d 40 51 ls st σ Q = am_la ls 0 (fun x => am_Rn L xs d 40 52 ls (x :: st) σ Q) := am_r_aload_n d40_51
theorem r40_52  : am_Rn L xs d 40 52 ls st σ Q = am_Rn L xs d 40 53 ls (.int 0 :: st) σ Q := am_r_iconst d40_52 (by decide)
theorem r40_53  : am_Rn L xs d 40 53 ls st σ Q = am_Rn L xs d 40 54 ls (.int 0 :: st) σ Q := am_r_iconst d40_53 (by decide)
theorem r40_54 {a1 a2 : Value} {p : Nat} : am_Rn L xs (d + 1) 40 54 ls (a2 :: a1 :: .ref p :: st) σ Q = ((am_oc σ p = 3 ∧ st.length ≤ 4 ∧ am_ok a1 = true ∧ am_ok a2 = true) ∧ am_Call L xs d 33 [.ref p, a1, a2] σ (fun r σ1 => am_Rn L xs (d + 1) 40 57 ls (r.toList ++ st) σ1 Q)) := am_R_virtual2 d40_54 rfl ⟨by decide, rfl⟩ rfl rfl (by decide)
theorem r40_57  : am_Rn L xs d 40 57 ls st σ Q = am_la ls 0 (fun x => am_Rn L xs d 40 58 ls (x :: st) σ Q) := am_r_aload_n d40_57
theorem r40_58  : am_Rn L xs d 40 58 ls st σ Q = am_Rn L xs d 40 59 ls (.int 0 :: st) σ Q := am_r_iconst d40_58 (by decide)
theorem r40_59  : am_Rn L xs d 40 59 ls st σ Q = am_Rn L xs d 40 60 ls (.int 0 :: st) σ Q := am_r_iconst d40_59 (by decide)
theorem r40_60 {a1 a2 : Value} {p : Nat} : am_Rn L xs (d + 1) 40 60 ls (a2 :: a1 :: .ref p :: st) σ Q = ((am_oc σ p = 3 ∧ st.length ≤ 4 ∧ am_ok a1 = true ∧ am_ok a2 = true) ∧ am_Call L xs d 37 [.ref p, a1, a2] σ (fun r σ1 => am_Rn L xs (d + 1) 40 63 ls (r.toList ++ st) σ1 Q)) := am_R_virtual2 d40_60 rfl ⟨by decide, rfl⟩ rfl rfl (by decide)
theorem r40_63  : am_Rn L xs d 40 63 ls [] σ Q = Q none σ := am_r_return d40_63 rfl
theorem d44_0 : decode (pg_code 44) 0 = .ok (.aload_n 0, 1) := by decide +kernel
theorem d44_1 : decode (pg_code 44) 1 = .ok (.getfield 9, 3) := by decide +kernel
theorem d44_4 : decode (pg_code 44) 4 = .ok (.iload_n 1, 1) := by decide +kernel
theorem d44_5 : decode (pg_code 44) 5 = .ok (.iaload, 1) := by decide +kernel
theorem d44_6 : decode (pg_code 44) 6 = .ok (.ireturn, 1) := by decide +kernel
theorem e44 {b1 b2 : Value} : am_Call L xs d 44 [b1, b2] σ Q = am_Rn L xs d 44 0 [b1, b2] [] σ Q := rfl
theorem r44_0  : am_Rn L xs d 44 0 ls st σ Q = am_la ls 0 (fun x => am_Rn L xs d 44 1 ls (x :: st) σ Q) := am_r_aload_n d44_0
theorem r44_1 {p : Nat} : am_Rn L xs d 44 1 ls (.ref p :: st) σ Q = am_fd σ p 3 0 (fun v => am_Rn L xs d 44 4 ls (v :: st) σ Q) := am_r_getfield d44_1 rfl
theorem r44_4  : am_Rn L xs d 44 4 ls st σ Q = am_li ls 1 (fun x => am_Rn L xs d 44 5 ls (.int x :: st) σ Q) := am_r_iload_n d44_4
theorem r44_5 {p : Nat} {i : Int32} : am_Rn L xs d 44 5 ls (.int i :: .ref p :: st) σ Q = am_ai 0 σ p i (fun x => am_Rn L xs d 44 6 ls (.int x :: st) σ Q) := am_r_iaload d44_5
theorem r44_6 {v : Int32} : am_Rn L xs d 44 6 ls [.int v] σ Q = Q (some (.int v)) σ := am_r_ireturn d44_6 rfl
end
