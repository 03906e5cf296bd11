/-! Rows of the program's instructions, written by program (wip/gen/gen_rows.py) -/
section
variable {L : Nat} {xs : Nat → Int32} {d : Nat} {ls st : List Value} {σ : am_S} {Q : Option Value → am_S → Prop}
theorem d68_0 : decode (pg_code 68) 0 = .ok (.aload_n 0, 1) := by decide +kernel
theorem d68_1 : decode (pg_code 68) 1 = .ok (.getfield 23, 3) := by decide +kernel
theorem d68_4 : decode (pg_code 68) 4 = .ok (.aload_n 1, 1) := by decide +kernel
theorem d68_5 : decode (pg_code 68) 5 = .ok (.aload_n 2, 1) := by decide +kernel
theorem d68_6 : decode (pg_code 68) 6 = .ok (.invokevirtual 55, 3) := by decide +kernel
theorem d68_9 : decode (pg_code 68) 9 = .ok (.aload_n 0, 1) := by decide +kernel
theorem d68_10 : decode (pg_code 68) 10 = .ok (.getfield 27, 3) := by decide +kernel
theorem d68_13 : decode (pg_code 68) 13 = .ok (.aload_n 1, 1) := by decide +kernel
theorem d68_14 : decode (pg_code 68) 14 = .ok (.aload_n 3, 1) := by decide +kernel
theorem d68_15 : decode (pg_code 68) 15 = .ok (.invokevirtual 55, 3) := by decide +kernel
theorem d68_18 : decode (pg_code 68) 18 = .ok (.aload_n 0, 1) := by decide +kernel
theorem d68_19 : decode (pg_code 68) 19 = .ok (.aload_n 1, 1) := by decide +kernel
theorem d68_20 : decode (pg_code 68) 20 = .ok (.getfield 59, 3) := by decide +kernel
theorem d68_23 : decode (pg_code 68) 23 = .ok (.putfield 48, 3) := by decide +kernel
theorem d68_26 : decode (pg_code 68) 26 = .ok (.aload_n 0, 1) := by decide +kernel
theorem d68_27 : decode (pg_code 68) 27 = .ok (.iconst 0, 1) := by decide +kernel
theorem d68_28 : decode (pg_code 68) 28 = .ok (.putfield 52, 3) := by decide +kernel
theorem d68_31 : decode (pg_code 68) 31 = .ok (.iconst 0, 1) := by decide +kernel
theorem d68_32 : decode (pg_code 68) 32 = .ok (.istore 4, 2) := by decide +kernel
theorem d68_34 : decode (pg_code 68) 34 = .ok (.iload 4, 2) := by decide +kernel
theorem d68_36 : decode (pg_code 68) 36 = .ok (.bipush 24, 2) := by decide +kernel
theorem d68_38 : decode (pg_code 68) 38 = .ok (.if_icmp .ge 17, 3) := by decide +kernel
theorem d68_41 : decode (pg_code 68) 41 = .ok (.aload_n 0, 1) := by decide +kernel
theorem d68_42 : decode (pg_code 68) 42 = .ok (.getfield 40, 3) := by decide +kernel
theorem d68_45 : decode (pg_code 68) 45 = .ok (.iload 4, 2) := by decide +kernel
theorem d68_47 : decode (pg_code 68) 47 = .ok (.iconst 0, 1) := by decide +kernel
theorem d68_48 : decode (pg_code 68) 48 = .ok (.bastore, 1) := by decide +kernel
theorem d68_49 : decode (pg_code 68) 49 = .ok (.iinc 4 1, 3) := by decide +kernel
theorem d68_52 : decode (pg_code 68) 52 = .ok (.goto (-18), 3) := by decide +kernel
theorem d68_55 : decode (pg_code 68) 55 = .ok (.aload_n 0, 1) := by decide +kernel
theorem d68_56 : decode (pg_code 68) 56 = .ok (.getfield 14, 3) := by decide +kernel
theorem d68_59 : decode (pg_code 68) 59 = .ok (.aload_n 1, 1) := by decide +kernel
theorem d68_60 : decode (pg_code 68) 60 = .ok (.invokevirtual 62, 3) := by decide +kernel
theorem d68_63 : decode (pg_code 68) 63 = .ok (.aload_n 0, 1) := by decide +kernel
theorem d68_64 : decode (pg_code 68) 64 = .ok (.getfield 34, 3) := by decide +kernel
theorem d68_67 : decode (pg_code 68) 67 = .ok (.aload_n 0, 1) := by decide +kernel
theorem d68_68 : decode (pg_code 68) 68 = .ok (.getfield 34, 3) := by decide +kernel
theorem d68_71 : decode (pg_code 68) 71 = .ok (.getfield 66, 3) := by decide +kernel
theorem d68_74 : decode (pg_code 68) 74 = .ok (.aload_n 0, 1) := by decide +kernel
theorem d68_75 : decode (pg_code 68) 75 = .ok (.getfield 14, 3) := by decide +kernel
theorem d68_78 : decode (pg_code 68) 78 = .ok (.invokevirtual 71, 3) := by decide +kernel
theorem d68_81 : decode (pg_code 68) 81 = .ok (.iconst 0, 1) := by decide +kernel
theorem d68_82 : decode (pg_code 68) 82 = .ok (.istore 4, 2) := by decide +kernel
theorem d68_84 : decode (pg_code 68) 84 = .ok (.iload 4, 2) := by decide +kernel
theorem d68_86 : decode (pg_code 68) 86 = .ok (.aload_n 0, 1) := by decide +kernel
theorem d68_87 : decode (pg_code 68) 87 = .ok (.getfield 37, 3) := by decide +kernel
theorem d68_90 : decode (pg_code 68) 90 = .ok (.getfield 66, 3) := by decide +kernel
theorem d68_93 : decode (pg_code 68) 93 = .ok (.if_icmp .ge 21, 3) := by decide +kernel
theorem d68_96 : decode (pg_code 68) 96 = .ok (.aload_n 0, 1) := by decide +kernel
theorem d68_97 : decode (pg_code 68) 97 = .ok (.iload 4, 2) := by decide +kernel
theorem d68_99 : decode (pg_code 68) 99 = .ok (.invokevirtual 75, 3) := by decide +kernel
theorem d68_102 : decode (pg_code 68) 102 = .ok (.ifCond .ne 6, 3) := by decide +kernel
theorem d68_105 : decode (pg_code 68) 105 = .ok (.iload 4, 2) := by decide +kernel
theorem d68_107 : decode (pg_code 68) 107 = .ok (.ireturn, 1) := by decide +kernel
theorem d68_108 : decode (pg_code 68) 108 = .ok (.iinc 4 1, 3) := by decide +kernel
theorem d68_111 : decode (pg_code 68) 111 = .ok (.goto (-27), 3) := by decide +kernel
theorem d68_114 : decode (pg_code 68) 114 = .ok (.iconst (-1), 1) := by decide +kernel
theorem d68_115 : decode (pg_code 68) 115 = .ok (.ireturn, 1) := by decide +kernel
theorem e68 {b1 b2 b3 b4 : Value} : am_Call L xs d 68 [b1, b2, b3, b4] σ Q = am_Rn L xs d 68 0 [b1, b2, b3, b4, .retAddr 0] [] σ Q := rfl
theorem r68_0  : am_Rn L xs d 68 0 ls st σ Q = am_la ls 0 (fun x => am_Rn L xs d 68 1 ls (x :: st) σ Q) := am_r_aload_n d68_0
theorem r68_1 {p : Nat} : am_Rn L xs d 68 1 ls (.ref p :: st) σ Q = am_fd σ p 5 1 (fun v => am_Rn L xs d 68 4 ls (v :: st) σ Q) := am_r_getfield d68_1 rfl
theorem r68_4  : am_Rn L xs d 68 4 ls st σ Q = am_la ls 1 (fun x => am_Rn L xs d 68 5 ls (x :: st) σ Q) := am_r_aload_n d68_4
theorem r68_5  : am_Rn L xs d 68 5 ls st σ Q = am_la ls 2 (fun x => am_Rn L xs d 68 6 ls (x :: st) σ Q) := am_r_aload_n d68_5
theorem r68_6 {a1 a2 : Value} {p : Nat} : am_Rn L xs (d + 1) 68 6 ls (a2 :: a1 :: .ref p :: st) σ Q = ((am_oc σ p = 4 ∧ st.length ≤ 4 ∧ am_ok a1 = true ∧ am_ok a2 = true) ∧ am_Call L xs d 24 [.ref p, a1, a2] σ (fun r σ1 => am_Rn L xs (d + 1) 68 9 ls (r.toList ++ st) σ1 Q)) := am_R_virtual2 d68_6 rfl ⟨by decide, rfl⟩ rfl rfl (by decide)
theorem r68_9  : am_Rn L xs d 68 9 ls st σ Q = am_la ls 0 (fun x => am_Rn L xs d 68 10 ls (x :: st) σ Q) := am_r_aload_n d68_9
theorem r68_10 {p : Nat} : am_Rn L xs d 68 10 ls (.ref p :: st) σ Q = am_fd σ p 5 2 (fun v => am_Rn L xs d 68 13 ls (v :: st) σ Q) := am_r_getfield d68_10 rfl
theorem r68_13  : am_Rn L xs d 68 13 ls st σ Q = am_la ls 1 (fun x => am_Rn L xs d 68 14 ls (x :: st) σ Q) := am_r_aload_n d68_13
theorem r68_14  : am_Rn L xs d 68 14 ls st σ Q = am_la ls 3 (fun x => am_Rn L xs d 68 15 ls (x :: st) σ Q) := am_r_aload_n d68_14
theorem r68_15 {a1 a2 : Value} {p : Nat} : am_Rn L xs (d + 1) 68 15 ls (a2 :: a1 :: .ref p :: st) σ Q = ((am_oc σ p = 4 ∧ st.length ≤ 4 ∧ am_ok a1 = true ∧ am_ok a2 = true) ∧ am_Call L xs d 24 [.ref p, a1, a2] σ (fun r σ1 => am_Rn L xs (d + 1) 68 18 ls (r.toList ++ st) σ1 Q)) := am_R_virtual2 d68_15 rfl ⟨by decide, rfl⟩ rfl rfl (by decide)
theorem r68_18  : am_Rn L xs d 68 18 ls st σ Q = am_la ls 0 (fun x => am_Rn L xs d 68 19 ls (x :: st) σ Q) := am_r_aload_n d68_18
theorem r68_19  : am_Rn L xs d 68 19 ls st σ Q = am_la ls 1 (fun x => am_Rn L xs d 68 20 ls (x :: st) σ Q) := am_r_aload_n d68_19
theorem r68_20 {p : Nat} : am_Rn L xs d 68 20 ls (.ref p :: st) σ Q = am_fd σ p 1 4 (fun v => am_Rn L xs d 68 23 ls (v :: st) σ Q) := am_r_getfield d68_20 rfl
theorem r68_23 {p : Nat} {v : Value} : am_Rn L xs d 68 23 ls (v :: .ref p :: st) σ Q = am_wf 68 5 σ p 5 7 v (fun σ1 => am_Rn L xs d 68 26 ls st σ1 Q) := am_r_putfield d68_23 rfl
theorem r68_26  : am_Rn L xs d 68 26 ls st σ Q = am_la ls 0 (fun x => am_Rn L xs d 68 27 ls (x :: st) σ Q) := am_r_aload_n d68_26
theorem r68_27  : am_Rn L xs d 68 27 ls st σ Q = am_Rn L xs d 68 28 ls (.int 0 :: st) σ Q := am_r_iconst d68_27 (by decide)
theorem r68_28 {p : Nat} {v : Value} : am_Rn L xs d 68 28 ls (v :: .ref p :: st) σ Q = am_wf 68 5 σ p 5 8 v (fun σ1 => am_Rn L xs d 68 31 ls st σ1 Q) := am_r_putfield d68_28 rfl
theorem r68_31  : am_Rn L xs d 68 31 ls st σ Q = am_Rn L xs d 68 32 ls (.int 0 :: st) σ Q := am_r_iconst d68_31 (by decide)
theorem r68_32 {x : Int32} : am_Rn L xs d 68 32 ls (.int x :: st) σ Q = (4 < ls.length ∧ am_Rn L xs d 68 34 (ls.set 4 (.int x)) st σ Q) := am_r_istore d68_32
theorem r68_34  : am_Rn L xs d 68 34 ls st σ Q = am_li ls 4 (fun x => am_Rn L xs d 68 36 ls (.int x :: st) σ Q) := am_r_iload d68_34
theorem r68_36  : am_Rn L xs d 68 36 ls st σ Q = am_Rn L xs d 68 38 ls (.int 24 :: st) σ Q := am_r_bipush d68_36 (by decide)
theorem r68_38 {a b : Int32} : am_Rn L xs d 68 38 ls (.int b :: .int a :: st) σ Q = if b ≤ a then am_Rn L xs d 68 55 ls st σ Q else am_Rn L xs d 68 41 ls st σ Q := (am_r_icmp (t := 55) d68_38 (by decide)).trans (am_ite _ _ trivial (by simp only [am_cond, decide_eq_true_eq]))
theorem r68_41  : am_Rn L xs d 68 41 ls st σ Q = am_la ls 0 (fun x => am_Rn L xs d 68 42 ls (x :: st) σ Q) := am_r_aload_n d68_41
theorem r68_42 {p : Nat} : am_Rn L xs d 68 42 ls (.ref p :: st) σ Q = am_fd σ p 5 5 (fun v => am_Rn L xs d 68 45 ls (v :: st) σ Q) := am_r_getfield d68_42 rfl
theorem r68_45  : am_Rn L xs d 68 45 ls st σ Q = am_li ls 4 (fun x => am_Rn L xs d 68 47 ls (.int x :: st) σ Q) := am_r_iload d68_45
theorem r68_47  : am_Rn L xs d 68 47 ls st σ Q = am_Rn L xs d 68 48 ls (.int 0 :: st) σ Q := am_r_iconst d68_47 (by decide)
theorem r68_48 {p : Nat} {i x : Int32} : am_Rn L xs d 68 48 ls (.int x :: .int i :: .ref p :: st) σ Q = am_wi 1 σ p i (vp_nar .boolean x) (fun σ1 => am_Rn L xs d 68 49 ls st σ1 Q) := am_r_bastore d68_48
theorem r68_49  : am_Rn L xs d 68 49 ls st σ Q = am_li ls 4 (fun x => am_Rn L xs d 68 52 (ls.set 4 (.int (x + 1))) st σ Q) := am_r_iinc d68_49 (by decide)
theorem r68_52  : am_Rn L xs d 68 52 ls st σ Q = am_Rn L xs d 68 34 ls st σ Q := am_r_goto d68_52 (by decide)
theorem r68_55  : am_Rn L xs d 68 55 ls st σ Q = am_la ls 0 (fun x => am_Rn L xs d 68 56 ls (x :: st) σ Q) := am_r_aload_n d68_55
theorem r68_56 {p : Nat} : am_Rn L xs d 68 56 ls (.ref p :: st) σ Q = am_fd σ p 5 0 (fun v => am_Rn L xs d 68 59 ls (v :: st) σ Q) := am_r_getfield d68_56 rfl
theorem r68_59  : am_Rn L xs d 68 59 ls st σ Q = am_la ls 1 (fun x => am_Rn L xs d 68 60 ls (x :: st) σ Q) := am_r_aload_n d68_59
theorem r68_60 {a1 : Value} {p : Nat} : am_Rn L xs (d + 1) 68 60 ls (a1 :: .ref p :: st) σ Q = ((am_oc σ p = 1 ∧ st.length ≤ 4 ∧ am_ok a1 = true) ∧ am_Call L xs d 23 [.ref p, a1] σ (fun r σ1 => am_Rn L xs (d + 1) 68 63 ls (r.toList ++ st) σ1 Q)) := am_R_virtual1 d68_60 rfl ⟨by decide, rfl⟩ rfl rfl (by decide)
theorem r68_63  : am_Rn L xs d 68 63 ls st σ Q = am_la ls 0 (fun x => am_Rn L xs d 68 64 ls (x :: st) σ Q) := am_r_aload_n d68_63
theorem r68_64 {p : Nat} : am_Rn L xs d 68 64 ls (.ref p :: st) σ Q = am_fd σ p 5 3 (fun v => am_Rn L xs d 68 67 ls (v :: st) σ Q) := am_r_getfield d68_64 rfl
theorem r68_67  : am_Rn L xs d 68 67 ls st σ Q = am_la ls 0 (fun x => am_Rn L xs d 68 68 ls (x :: st) σ Q) := am_r_aload_n d68_67
theorem r68_68 {p : Nat} : am_Rn L xs d 68 68 ls (.ref p :: st) σ Q = am_fd σ p 5 3 (fun v => am_Rn L xs d 68 71 ls (v :: st) σ Q) := am_r_getfield d68_68 rfl
theorem r68_71 {p : Nat} : am_Rn L xs d 68 71 ls (.ref p :: st) σ Q = am_fd σ p 2 1 (fun v => am_Rn L xs d 68 74 ls (v :: st) σ Q) := am_r_getfield d68_71 rfl
theorem r68_74  : am_Rn L xs d 68 74 ls st σ Q = am_la ls 0 (fun x => am_Rn L xs d 68 75 ls (x :: st) σ Q) := am_r_aload_n d68_74
theorem r68_75 {p : Nat} : am_Rn L xs d 68 75 ls (.ref p :: st) σ Q = am_fd σ p 5 0 (fun v => am_Rn L xs d 68 78 ls (v :: st) σ Q) := am_r_getfield d68_75 rfl
theorem r68_78 {a1 a2 : Value} {p : Nat} : am_Rn L xs (d + 1) 68 78 ls (a2 :: a1 :: .ref p :: st) σ Q = ((am_oc σ p = 2 ∧ st.length ≤ 4 ∧ am_ok a1 = true ∧ am_ok a2 = true) ∧ am_Call L xs d 62 [.ref p, a1, a2] σ (fun r σ1 => am_Rn L xs (d + 1) 68 81 ls (r.toList ++ st) σ1 Q)) := am_R_virtual2 d68_78 rfl ⟨by decide, rfl⟩ rfl rfl (by decide)
theorem r68_81  : am_Rn L xs d 68 81 ls st σ Q = am_Rn L xs d 68 82 ls (.int 0 :: st) σ Q := am_r_iconst d68_81 (by decide)
theorem r68_82 {x : Int32} : am_Rn L xs d 68 82 ls (.int x :: st) σ Q = (4 < ls.length ∧ am_Rn L xs d 68 84 (ls.set 4 (.int x)) st σ Q) := am_r_istore d68_82
theorem r68_84  : am_Rn L xs d 68 84 ls st σ Q = am_li ls 4 (fun x => am_Rn L xs d 68 86 ls (.int x :: st) σ Q) := am_r_iload d68_84
theorem r68_86  : am_Rn L xs d 68 86 ls st σ Q = am_la ls 0 (fun x => am_Rn L xs d 68 87 ls (x :: st) σ Q) := am_r_aload_n d68_86
theorem r68_87 {p : Nat} : am_Rn L xs d 68 87 ls (.ref p :: st) σ Q = am_fd σ p 5 4 (fun v => am_Rn L xs d 68 90 ls (v :: st) σ Q) := am_r_getfield d68_87 rfl
theorem r68_90 {p : Nat} : am_Rn L xs d 68 90 ls (.ref p :: st) σ Q = am_fd σ p 2 1 (fun v => am_Rn L xs d 68 93 ls (v :: st) σ Q) := am_r_getfield d68_90 rfl
theorem r68_93 {a b : Int32} : am_Rn L xs d 68 93 ls (.int b :: .int a :: st) σ Q = if b ≤ a then am_Rn L xs d 68 114 ls st σ Q else am_Rn L xs d 68 96 ls st σ Q := (am_r_icmp (t := 114) d68_93 (by decide)).trans (am_ite _ _ trivial (by simp only [am_cond, decide_eq_true_eq]))
theorem r68_96  : am_Rn L xs d 68 96 ls st σ Q = am_la ls 0 (fun x => am_Rn L xs d 68 97 ls (x :: st) σ Q) := am_r_aload_n d68_96
theorem r68_97  : am_Rn L xs d 68 97 ls st σ Q = am_li ls 4 (fun x => am_Rn L xs d 68 99 ls (.int x :: st) σ Q) := am_r_iload d68_97
theorem r68_99 {a1 : Value} {p : Nat} : am_Rn L xs (d + 1) 68 99 ls (a1 :: .ref p :: st) σ Q = ((am_oc σ p = 5 ∧ st.length ≤ 4 ∧ am_ok a1 = true) ∧ am_Call L xs d 69 [.ref p, a1] σ (fun r σ1 => am_Rn L xs (d + 1) 68 102 ls (r.toList ++ st) σ1 Q)) := am_R_virtual1 d68_99 rfl ⟨by decide, rfl⟩ rfl rfl (by decide)
theorem r68_102 {a : Int32} : am_Rn L xs d 68 102 ls (.int a :: st) σ Q = if ¬ a = 0 then am_Rn L xs d 68 108 ls st σ Q else am_Rn L xs d 68 105 ls st σ Q := (am_r_if (t := 108) d68_102 (by decide)).trans (am_ite _ _ trivial (by simp only [am_cond, decide_eq_true_eq]))
theorem r68_105  : am_Rn L xs d 68 105 ls st σ Q = am_li ls 4 (fun x => am_Rn L xs d 68 107 ls (.int x :: st) σ Q) := am_r_iload d68_105
theorem r68_107 {v : Int32} : am_Rn L xs d 68 107 ls [.int v] σ Q = Q (some (.int v)) σ := am_r_ireturn d68_107 rfl
theorem r68_108  : am_Rn L xs d 68 108 ls st σ Q = am_li ls 4 (fun x => am_Rn L xs d 68 111 (ls.set 4 (.int (x + 1))) st σ Q) := am_r_iinc d68_108 (by decide)
theorem r68_111  : am_Rn L xs d 68 111 ls st σ Q = am_Rn L xs d 68 84 ls st σ Q := am_r_goto d68_111 (by decide)
theorem r68_114  : am_Rn L xs d 68 114 ls st σ Q = am_Rn L xs d 68 115 ls (.int (-1) :: st) σ Q := am_r_iconst d68_114 (by decide)
theorem r68_115 {v : Int32} : am_Rn L xs d 68 115 ls [.int v] σ Q = Q (some (.int v)) σ := am_r_ireturn d68_115 rfl
theorem d69_0 : decode (pg_code 69) 0 = .ok (.aload_n 0, 1) := by decide +kernel
theorem d69_1 : decode (pg_code 69) 1 = .ok (.getfield 37, 3) := by decide +kernel
theorem d69_4 : decode (pg_code 69) 4 = .ok (.iload_n 1, 1) := by decide +kernel
theorem d69_5 : decode (pg_code 69) 5 = .ok (.iconst 0, 1) := by decide +kernel
theorem d69_6 : decode (pg_code 69) 6 = .ok (.invokevirtual 79, 3) := by decide +kernel
theorem d69_9 : decode (pg_code 69) 9 = .ok (.tableswitch 45 0 2 #[27, 33, 39], 27) := by decide +kernel
theorem d69_36 : decode (pg_code 69) 36 = .ok (.aload_n 0, 1) := by decide +kernel
theorem d69_37 : decode (pg_code 69) 37 = .ok (.iload_n 1, 1) := by decide +kernel
theorem d69_38 : decode (pg_code 69) 38 = .ok (.invokevirtual 83, 3) := by decide +kernel
theorem d69_41 : decode (pg_code 69) 41 = .ok (.ireturn, 1) := by decide +kernel
theorem d69_42 : decode (pg_code 69) 42 = .ok (.aload_n 0, 1) := by decide +kernel
theorem d69_43 : decode (pg_code 69) 43 = .ok (.iload_n 1, 1) := by decide +kernel
theorem d69_44 : decode (pg_code 69) 44 = .ok (.invokevirtual 86, 3) := by decide +kernel
theorem d69_47 : decode (pg_code 69) 47 = .ok (.ireturn, 1) := by decide +kernel
theorem d69_48 : decode (pg_code 69) 48 = .ok (.aload_n 0, 1) := by decide +kernel
theorem d69_49 : decode (pg_code 69) 49 = .ok (.iload_n 1, 1) := by decide +kernel
theorem d69_50 : decode (pg_code 69) 50 = .ok (.invokevirtual 89, 3) := by decide +kernel
theorem d69_53 : decode (pg_code 69) 53 = .ok (.ireturn, 1) := by decide +kernel
theorem d69_54 : decode (pg_code 69) 54 = .ok (.aload_n 0, 1) := by decide +kernel
theorem d69_55 : decode (pg_code 69) 55 = .ok (.iload_n 1, 1) := by decide +kernel
theorem d69_56 : decode (pg_code 69) 56 = .ok (.invokevirtual 92, 3) := by decide +kernel
theorem d69_59 : decode (pg_code 69) 59 = .ok (.ireturn, 1) := by decide +kernel
theorem e69 {b1 b2 : Value} : am_Call L xs d 69 [b1, b2] σ Q = am_Rn L xs d 69 0 [b1, b2] [] σ Q := rfl
theorem r69_0  : am_Rn L xs d 69 0 ls st σ Q = am_la ls 0 (fun x => am_Rn L xs d 69 1 ls (x :: st) σ Q) := am_r_aload_n d69_0
theorem r69_1 {p : Nat} : am_Rn L xs d 69 1 ls (.ref p :: st) σ Q = am_fd σ p 5 4 (fun v => am_Rn L xs d 69 4 ls (v :: st) σ Q) := am_r_getfield d69_1 rfl
theorem r69_4  : am_Rn L xs d 69 4 ls st σ Q = am_li ls 1 (fun x => am_Rn L xs d 69 5 ls (.int x :: st) σ Q) := am_r_iload_n d69_4
theorem r69_5  : am_Rn L xs d 69 5 ls st σ Q = am_Rn L xs d 69 6 ls (.int 0 :: st) σ Q := am_r_iconst d69_5 (by decide)
theorem r69_6 {a1 a2 : Value} {p : Nat} : am_Rn L xs (d + 1) 69 6 ls (a2 :: a1 :: .ref p :: st) σ Q = ((am_oc σ p = 2 ∧ st.length ≤ 4 ∧ am_ok a1 = true ∧ am_ok a2 = true) ∧ am_Call L xs d 58 [.ref p, a1, a2] σ (fun r σ1 => am_Rn L xs (d + 1) 69 9 ls (r.toList ++ st) σ1 Q)) := am_R_virtual2 d69_6 rfl ⟨by decide, rfl⟩ rfl rfl (by decide)
theorem r69_36  : am_Rn L xs d 69 36 ls st σ Q = am_la ls 0 (fun x => am_Rn L xs d 69 37 ls (x :: st) σ Q) := am_r_aload_n d69_36
theorem r69_37  : am_Rn L xs d 69 37 ls st σ Q = am_li ls 1 (fun x => am_Rn L xs d 69 38 ls (.int x :: st) σ Q) := am_r_iload_n d69_37
theorem r69_38 {a1 : Value} {p : Nat} : am_Rn L xs (d + 1) 69 38 ls (a1 :: .ref p :: st) σ Q = ((am_oc σ p = 5 ∧ st.length ≤ 4 ∧ am_ok a1 = true) ∧ am_Call L xs d 70 [.ref p, a1] σ (fun r σ1 => am_Rn L xs (d + 1) 69 41 ls (r.toList ++ st) σ1 Q)) := am_R_virtual1 d69_38 rfl ⟨by decide, rfl⟩ rfl rfl (by decide)
theorem r69_41 {v : Int32} (hv : v = 0 ∨ v = 1) : am_Rn L xs d 69 41 ls [.int v] σ Q = Q (some (.int v)) σ := am_r_zreturn d69_41 rfl hv
theorem r69_42  : am_Rn L xs d 69 42 ls st σ Q = am_la ls 0 (fun x => am_Rn L xs d 69 43 ls (x :: st) σ Q) := am_r_aload_n d69_42
theorem r69_43  : am_Rn L xs d 69 43 ls st σ Q = am_li ls 1 (fun x => am_Rn L xs d 69 44 ls (.int x :: st) σ Q) := am_r_iload_n d69_43
theorem r69_44 {a1 : Value} {p : Nat} : am_Rn L xs (d + 1) 69 44 ls (a1 :: .ref p :: st) σ Q = ((am_oc σ p = 5 ∧ st.length ≤ 4 ∧ am_ok a1 = true) ∧ am_Call L xs d 76 [.ref p, a1] σ (fun r σ1 => am_Rn L xs (d + 1) 69 47 ls (r.toList ++ st) σ1 Q)) := am_R_virtual1 d69_44 rfl ⟨by decide, rfl⟩ rfl rfl (by decide)
theorem r69_47 {v : Int32} (hv : v = 0 ∨ v = 1) : am_Rn L xs d 69 47 ls [.int v] σ Q = Q (some (.int v)) σ := am_r_zreturn d69_47 rfl hv
theorem r69_48  : am_Rn L xs d 69 48 ls st σ Q = am_la ls 0 (fun x => am_Rn L xs d 69 49 ls (x :: st) σ Q) := am_r_aload_n d69_48
theorem r69_49  : am_Rn L xs d 69 49 ls st σ Q = am_li ls 1 (fun x => am_Rn L xs d 69 50 ls (.int x :: st) σ Q) := am_r_iload_n d69_49
theorem r69_50 {a1 : Value} {p : Nat} : am_Rn L xs (d + 1) 69 50 ls (a1 :: .ref p :: st) σ Q = ((am_oc σ p = 5 ∧ st.length ≤ 4 ∧ am_ok a1 = true) ∧ am_Call L xs d 78 [.ref p, a1] σ (fun r σ1 => am_Rn L xs (d + 1) 69 53 ls (r.toList ++ st) σ1 Q)) := am_R_virtual1 d69_50 rfl ⟨by decide, rfl⟩ rfl rfl (by decide)
theorem r69_53 {v : Int32} (hv : v = 0 ∨ v = 1) : am_Rn L xs d 69 53 ls [.int v] σ Q = Q (some (.int v)) σ := am_r_zreturn d69_53 rfl hv
theorem r69_54  : am_Rn L xs d 69 54 ls st σ Q = am_la ls 0 (fun x => am_Rn L xs d 69 55 ls (x :: st) σ Q) := am_r_aload_n d69_54
theorem r69_55  : am_Rn L xs d 69 55 ls st σ Q = am_li ls 1 (fun x => am_Rn L xs d 69 56 ls (.int x :: st) σ Q) := am_r_iload_n d69_55
theorem r69_56 {a1 : Value} {p : Nat} : am_Rn L xs (d + 1) 69 56 ls (a1 :: .ref p :: st) σ Q = ((am_oc σ p = 5 ∧ st.length ≤ 4 ∧ am_ok a1 = true) ∧ am_Call L xs d 80 [.ref p, a1] σ (fun r σ1 => am_Rn L xs (d + 1) 69 59 ls (r.toList ++ st) σ1 Q)) := am_R_virtual1 d69_56 rfl ⟨by decide, rfl⟩ rfl rfl (by decide)
theorem r69_59 {v : Int32} (hv : v = 0 ∨ v = 1) : am_Rn L xs d 69 59 ls [.int v] σ Q = Q (some (.int v)) σ := am_r_zreturn d69_59 rfl hv
theorem d70_0 : decode (pg_code 70) 0 = .ok (.aload_n 0, 1) := by decide +kernel
theorem d70_1 : decode (pg_code 70) 1 = .ok (.aload_n 0, 1) := by decide +kernel
theorem d70_2 : decode (pg_code 70) 2 = .ok (.getfield 37, 3) := by decide +kernel
theorem d70_5 : decode (pg_code 70) 5 = .ok (.iload_n 1, 1) := by decide +kernel
theorem d70_6 : decode (pg_code 70) 6 = .ok (.iconst 2, 1) := by decide +kernel
theorem d70_7 : decode (pg_code 70) 7 = .ok (.invokevirtual 79, 3) := by decide +kernel
theorem d70_10 : decode (pg_code 70) 10 = .ok (.invokevirtual 95, 3) := by decide +kernel
theorem d70_13 : decode (pg_code 70) 13 = .ok (.istore_n 2, 1) := by decide +kernel
theorem d70_14 : decode (pg_code 70) 14 = .ok (.aload_n 0, 1) := by decide +kernel
theorem d70_15 : decode (pg_code 70) 15 = .ok (.aload_n 0, 1) := by decide +kernel
theorem d70_16 : decode (pg_code 70) 16 = .ok (.getfield 37, 3) := by decide +kernel
theorem d70_19 : decode (pg_code 70) 19 = .ok (.iload_n 1, 1) := by decide +kernel
theorem d70_20 : decode (pg_code 70) 20 = .ok (.iconst 3, 1) := by decide +kernel
theorem d70_21 : decode (pg_code 70) 21 = .ok (.invokevirtual 79, 3) := by decide +kernel
theorem d70_24 : decode (pg_code 70) 24 = .ok (.invokevirtual 95, 3) := by decide +kernel
theorem d70_27 : decode (pg_code 70) 27 = .ok (.istore_n 3, 1) := by decide +kernel
theorem d70_28 : decode (pg_code 70) 28 = .ok (.aload_n 0, 1) := by decide +kernel
theorem d70_29 : decode (pg_code 70) 29 = .ok (.iload_n 1, 1) := by decide +kernel
theorem d70_30 : decode (pg_code 70) 30 = .ok (.iload_n 2, 1) := by decide +kernel
theorem d70_31 : decode (pg_code 70) 31 = .ok (.iload_n 3, 1) := by decide +kernel
theorem d70_32 : decode (pg_code 70) 32 = .ok (.invokevirtual 99, 3) := by decide +kernel
theorem d70_35 : decode (pg_code 70) 35 = .ok (.istore 4, 2) := by decide +kernel
theorem d70_37 : decode (pg_code 70) 37 = .ok (.iload 4, 2) := by decide +kernel
theorem d70_39 : decode (pg_code 70) 39 = .ok (.iconst (-1), 1) := by decide +kernel
theorem d70_40 : decode (pg_code 70) 40 = .ok (.if_icmp .eq 27, 3) := by decide +kernel
theorem d70_43 : decode (pg_code 70) 43 = .ok (.aload_n 0, 1) := by decide +kernel
theorem d70_44 : decode (pg_code 70) 44 = .ok (.getfield 40, 3) := by decide +kernel
theorem d70_47 : decode (pg_code 70) 47 = .ok (.iload 4, 2) := by decide +kernel
theorem d70_49 : decode (pg_code 70) 49 = .ok (.iconst 1, 1) := by decide +kernel
theorem d70_50 : decode (pg_code 70) 50 = .ok (.bastore, 1) := by decide +kernel
theorem d70_51 : decode (pg_code 70) 51 = .ok (.aload_n 0, 1) := by decide +kernel
theorem d70_52 : decode (pg_code 70) 52 = .ok (.aload_n 0, 1) := by decide +kernel
theorem d70_53 : decode (pg_code 70) 53 = .ok (.getfield 34, 3) := by decide +kernel
theorem d70_56 : decode (pg_code 70) 56 = .ok (.iload 4, 2) := by decide +kernel
theorem d70_58 : decode (pg_code 70) 58 = .ok (.iconst 1, 1) := by decide +kernel
theorem d70_59 : decode (pg_code 70) 59 = .ok (.invokevirtual 79, 3) := by decide +kernel
theorem d70_62 : decode (pg_code 70) 62 = .ok (.invokevirtual 103, 3) := by decide +kernel
theorem d70_65 : decode (pg_code 70) 65 = .ok (.iconst 1, 1) := by decide +kernel
theorem d70_66 : decode (pg_code 70) 66 = .ok (.ireturn, 1) := by decide +kernel
theorem d70_67 : decode (pg_code 70) 67 = .ok (.aload_n 0, 1) := by decide +kernel
theorem d70_68 : decode (pg_code 70) 68 = .ok (.getfield 48, 3) := by decide +kernel
theorem d70_71 : decode (pg_code 70) 71 = .ok (.aload_n 0, 1) := by decide +kernel
theorem d70_72 : decode (pg_code 70) 72 = .ok (.getfield 34, 3) := by decide +kernel
theorem d70_75 : decode (pg_code 70) 75 = .ok (.iconst 0, 1) := by decide +kernel
theorem d70_76 : decode (pg_code 70) 76 = .ok (.invokevirtual 106, 3) := by decide +kernel
theorem d70_79 : decode (pg_code 70) 79 = .ok (.iadd, 1) := by decide +kernel
theorem d70_80 : decode (pg_code 70) 80 = .ok (.aload_n 0, 1) := by decide +kernel
theorem d70_81 : decode (pg_code 70) 81 = .ok (.getfield 52, 3) := by decide +kernel
theorem d70_84 : decode (pg_code 70) 84 = .ok (.iadd, 1) := by decide +kernel
theorem d70_85 : decode (pg_code 70) 85 = .ok (.istore 5, 2) := by decide +kernel
theorem d70_87 : decode (pg_code 70) 87 = .ok (.aload_n 0, 1) := by decide +kernel
theorem d70_88 : decode (pg_code 70) 88 = .ok (.iload 5, 2) := by decide +kernel
theorem d70_90 : decode (pg_code 70) 90 = .ok (.invokevirtual 103, 3) := by decide +kernel
theorem d70_93 : decode (pg_code 70) 93 = .ok (.aload_n 0, 1) := by decide +kernel
theorem d70_94 : decode (pg_code 70) 94 = .ok (.iload_n 2, 1) := by decide +kernel
theorem d70_95 : decode (pg_code 70) 95 = .ok (.iload_n 3, 1) := by decide +kernel
theorem d70_96 : decode (pg_code 70) 96 = .ok (.invokevirtual 109, 3) := by decide +kernel
theorem d70_99 : decode (pg_code 70) 99 = .ok (.ifCond .ne 5, 3) := by decide +kernel
theorem d70_102 : decode (pg_code 70) 102 = .ok (.iconst 0, 1) := by decide +kernel
theorem d70_103 : decode (pg_code 70) 103 = .ok (.ireturn, 1) := by decide +kernel
theorem d70_104 : decode (pg_code 70) 104 = .ok (.aload_n 0, 1) := by decide +kernel
theorem d70_105 : decode (pg_code 70) 105 = .ok (.getfield 14, 3) := by decide +kernel
theorem d70_108 : decode (pg_code 70) 108 = .ok (.iload 5, 2) := by decide +kernel
theorem d70_110 : decode (pg_code 70) 110 = .ok (.aload_n 0, 1) := by decide +kernel
theorem d70_111 : decode (pg_code 70) 111 = .ok (.getfield 37, 3) := by decide +kernel
theorem d70_114 : decode (pg_code 70) 114 = .ok (.iload_n 1, 1) := by decide +kernel
theorem d70_115 : decode (pg_code 70) 115 = .ok (.iconst 4, 1) := by decide +kernel
theorem d70_116 : decode (pg_code 70) 116 = .ok (.invokevirtual 79, 3) := by decide +kernel
theorem d70_119 : decode (pg_code 70) 119 = .ok (.aload_n 0, 1) := by decide +kernel
theorem d70_120 : decode (pg_code 70) 120 = .ok (.getfield 37, 3) := by decide +kernel
theorem d70_123 : decode (pg_code 70) 123 = .ok (.iload_n 1, 1) := by decide +kernel
theorem d70_124 : decode (pg_code 70) 124 = .ok (.iconst 5, 1) := by decide +kernel
theorem d70_125 : decode (pg_code 70) 125 = .ok (.invokevirtual 79, 3) := by decide +kernel
theorem d70_128 : decode (pg_code 70) 128 = .ok (.invokevirtual 113, 3) := by decide +kernel
theorem d70_131 : decode (pg_code 70) 131 = .ok (.aload_n 0, 1) := by decide +kernel
theorem d70_132 : decode (pg_code 70) 132 = .ok (.getfield 14, 3) := by decide +kernel
theorem d70_135 : decode (pg_code 70) 135 = .ok (.iload 5, 2) := by decide +kernel
theorem d70_137 : decode (pg_code 70) 137 = .ok (.iload_n 2, 1) := by decide +kernel
theorem d70_138 : decode (pg_code 70) 138 = .ok (.iload_n 3, 1) := by decide +kernel
theorem d70_139 : decode (pg_code 70) 139 = .ok (.invokevirtual 117, 3) := by decide +kernel
theorem d70_142 : decode (pg_code 70) 142 = .ok (.iconst 1, 1) := by decide +kernel
theorem d70_143 : decode (pg_code 70) 143 = .ok (.ireturn, 1) := by decide +kernel
theorem e70 {b1 b2 : Value} : am_Call L xs d 70 [b1, b2] σ Q = am_Rn L xs d 70 0 [b1, b2, .retAddr 0, .retAddr 0, .retAddr 0, .retAddr 0] [] σ Q := rfl
theorem r70_0  : am_Rn L xs d 70 0 ls st σ Q = am_la ls 0 (fun x => am_Rn L xs d 70 1 ls (x :: st) σ Q) := am_r_aload_n d70_0
theorem r70_1  : am_Rn L xs d 70 1 ls st σ Q = am_la ls 0 (fun x => am_Rn L xs d 70 2 ls (x :: st) σ Q) := am_r_aload_n d70_1
theorem r70_2 {p : Nat} : am_Rn L xs d 70 2 ls (.ref p :: st) σ Q = am_fd σ p 5 4 (fun v => am_Rn L xs d 70 5 ls (v :: st) σ Q) := am_r_getfield d70_2 rfl
theorem r70_5  : am_Rn L xs d 70 5 ls st σ Q = am_li ls 1 (fun x => am_Rn L xs d 70 6 ls (.int x :: st) σ Q) := am_r_iload_n d70_5
theorem r70_6  : am_Rn L xs d 70 6 ls st σ Q = am_Rn L xs d 70 7 ls (.int 2 :: st) σ Q := am_r_iconst d70_6 (by decide)
theorem r70_7 {a1 a2 : Value} {p : Nat} : am_Rn L xs (d + 1) 70 7 ls (a2 :: a1 :: .ref p :: st) σ Q = ((am_oc σ p = 2 ∧ st.length ≤ 4 ∧ am_ok a1 = true ∧ am_ok a2 = true) ∧ am_Call L xs d 58 [.ref p, a1, a2] σ (fun r σ1 => am_Rn L xs (d + 1) 70 10 ls (r.toList ++ st) σ1 Q)) := am_R_virtual2 d70_7 rfl ⟨by decide, rfl⟩ rfl rfl (by decide)
theorem r70_10 {a1 : Value} {p : Nat} : am_Rn L xs (d + 1) 70 10 ls (a1 :: .ref p :: st) σ Q = ((am_oc σ p = 5 ∧ st.length ≤ 4 ∧ am_ok a1 = true) ∧ am_Call L xs d 71 [.ref p, a1] σ (fun r σ1 => am_Rn L xs (d + 1) 70 13 ls (r.toList ++ st) σ1 Q)) := am_R_virtual1 d70_10 rfl ⟨by decide, rfl⟩ rfl rfl (by decide)
theorem r70_13 {x : Int32} : am_Rn L xs d 70 13 ls (.int x :: st) σ Q = (2 < ls.length ∧ am_Rn L xs d 70 14 (ls.set 2 (.int x)) st σ Q) := am_r_istore_n d70_13
theorem r70_14  : am_Rn L xs d 70 14 ls st σ Q = am_la ls 0 (fun x => am_Rn L xs d 70 15 ls (x :: st) σ Q) := am_r_aload_n d70_14
theorem r70_15  : am_Rn L xs d 70 15 ls st σ Q = am_la ls 0 (fun x => am_Rn L xs d 70 16 ls (x :: st) σ Q) := am_r_aload_n d70_15
theorem r70_16 {p : Nat} : am_Rn L xs d 70 16 ls (.ref p :: st) σ Q = am_fd σ p 5 4 (fun v => am_Rn L xs d 70 19 ls (v :: st) σ Q) := am_r_getfield d70_16 rfl
theorem r70_19  : am_Rn L xs d 70 19 ls st σ Q = am_li ls 1 (fun x => am_Rn L xs d 70 20 ls (.int x :: st) σ Q) := am_r_iload_n d70_19
theorem r70_20  : am_Rn L xs d 70 20 ls st σ Q = am_Rn L xs d 70 21 ls (.int 3 :: st) σ Q := am_r_iconst d70_20 (by decide)
theorem r70_21 {a1 a2 : Value} {p : Nat} : am_Rn L xs (d + 1) 70 21 ls (a2 :: a1 :: .ref p :: st) σ Q = ((am_oc σ p = 2 ∧ st.length ≤ 4 ∧ am_ok a1 = true ∧ am_ok a2 = true) ∧ am_Call L xs d 58 [.ref p, a1, a2] σ (fun r σ1 => am_Rn L xs (d + 1) 70 24 ls (r.toList ++ st) σ1 Q)) := am_R_virtual2 d70_21 rfl ⟨by decide, rfl⟩ rfl rfl (by decide)
theorem r70_24 {a1 : Value} {p : Nat} : am_Rn L xs (d + 1) 70 24 ls (a1 :: .ref p :: st) σ Q = ((am_oc σ p = 5 ∧ st.length ≤ 4 ∧ am_ok a1 = true) ∧ am_Call L xs d 71 [.ref p, a1] σ (fun r σ1 => am_Rn L xs (d + 1) 70 27 ls (r.toList ++ st) σ1 Q)) := am_R_virtual1 d70_24 rfl ⟨by decide, rfl⟩ rfl rfl (by decide)
theorem r70_27 {x : Int32} : am_Rn L xs d 70 27 ls (.int x :: st) σ Q = (3 < ls.length ∧ am_Rn L xs d 70 28 (ls.set 3 (.int x)) st σ Q) := am_r_istore_n d70_27
theorem r70_28  : am_Rn L xs d 70 28 ls st σ Q = am_la ls 0 (fun x => am_Rn L xs d 70 29 ls (x :: st) σ Q) := am_r_aload_n d70_28
theorem r70_29  : am_Rn L xs d 70 29 ls st σ Q = am_li ls 1 (fun x => am_Rn L xs d 70 30 ls (.int x :: st) σ Q) := am_r_iload_n d70_29
theorem r70_30  : am_Rn L xs d 70 30 ls st σ Q = am_li ls 2 (fun x => am_Rn L xs d 70 31 ls (.int x :: st) σ Q) := am_r_iload_n d70_30
theorem r70_31  : am_Rn L xs d 70 31 ls st σ Q = am_li ls 3 (fun x => am_Rn L xs d 70 32 ls (.int x :: st) σ Q) := am_r_iload_n d70_31
theorem r70_32 {a1 a2 a3 : Value} {p : Nat} : am_Rn L xs (d + 1) 70 32 ls (a3 :: a2 :: a1 :: .ref p :: st) σ Q = ((am_oc σ p = 5 ∧ st.length ≤ 4 ∧ am_ok a1 = true ∧ am_ok a2 = true ∧ am_ok a3 = true) ∧ am_Call L xs d 72 [.ref p, a1, a2, a3] σ (fun r σ1 => am_Rn L xs (d + 1) 70 35 ls (r.toList ++ st) σ1 Q)) := am_R_virtual3 d70_32 rfl ⟨by decide, rfl⟩ rfl rfl (by decide)
theorem r70_35 {x : Int32} : am_Rn L xs d 70 35 ls (.int x :: st) σ Q = (4 < ls.length ∧ am_Rn L xs d 70 37 (ls.set 4 (.int x)) st σ Q) := am_r_istore d70_35
theorem r70_37  : am_Rn L xs d 70 37 ls st σ Q = am_li ls 4 (fun x => am_Rn L xs d 70 39 ls (.int x :: st) σ Q) := am_r_iload d70_37
theorem r70_39  : am_Rn L xs d 70 39 ls st σ Q = am_Rn L xs d 70 40 ls (.int (-1) :: st) σ Q := am_r_iconst d70_39 (by decide)
theorem r70_40 {a b : Int32} : am_Rn L xs d 70 40 ls (.int b :: .int a :: st) σ Q = if a = b then am_Rn L xs d 70 67 ls st σ Q else am_Rn L xs d 70 43 ls st σ Q := (am_r_icmp (t := 67) d70_40 (by decide)).trans (am_ite _ _ trivial (by simp only [am_cond, decide_eq_true_eq]))
theorem r70_43  : am_Rn L xs d 70 43 ls st σ Q = am_la ls 0 (fun x => am_Rn L xs d 70 44 ls (x :: st) σ Q) := am_r_aload_n d70_43
theorem r70_44 {p : Nat} : am_Rn L xs d 70 44 ls (.ref p :: st) σ Q = am_fd σ p 5 5 (fun v => am_Rn L xs d 70 47 ls (v :: st) σ Q) := am_r_getfield d70_44 rfl
theorem r70_47  : am_Rn L xs d 70 47 ls st σ Q = am_li ls 4 (fun x => am_Rn L xs d 70 49 ls (.int x :: st) σ Q) := am_r_iload d70_47
theorem r70_49  : am_Rn L xs d 70 49 ls st σ Q = am_Rn L xs d 70 50 ls (.int 1 :: st) σ Q := am_r_iconst d70_49 (by decide)
theorem r70_50 {p : Nat} {i x : Int32} : am_Rn L xs d 70 50 ls (.int x :: .int i :: .ref p :: st) σ Q = am_wi 1 σ p i (vp_nar .boolean x) (fun σ1 => am_Rn L xs d 70 51 ls st σ1 Q) := am_r_bastore d70_50
theorem r70_51  : am_Rn L xs d 70 51 ls st σ Q = am_la ls 0 (fun x => am_Rn L xs d 70 52 ls (x :: st) σ Q) := am_r_aload_n d70_51
theorem r70_52  : am_Rn L xs d 70 52 ls st σ Q = am_la ls 0 (fun x => am_Rn L xs d 70 53 ls (x :: st) σ Q) := am_r_aload_n d70_52
theorem r70_53 {p : Nat} : am_Rn L xs d 70 53 ls (.ref p :: st) σ Q = am_fd σ p 5 3 (fun v => am_Rn L xs d 70 56 ls (v :: st) σ Q) := am_r_getfield d70_53 rfl
theorem r70_56  : am_Rn L xs d 70 56 ls st σ Q = am_li ls 4 (fun x => am_Rn L xs d 70 58 ls (.int x :: st) σ Q) := am_r_iload d70_56
theorem r70_58  : am_Rn L xs d 70 58 ls st σ Q = am_Rn L xs d 70 59 ls (.int 1 :: st) σ Q := am_r_iconst d70_58 (by decide)
theorem r70_59 {a1 a2 : Value} {p : Nat} : am_Rn L xs (d + 1) 70 59 ls (a2 :: a1 :: .ref p :: st) σ Q = ((am_oc σ p = 2 ∧ st.length ≤ 4 ∧ am_ok a1 = true ∧ am_ok a2 = true) ∧ am_Call L xs d 58 [.ref p, a1, a2] σ (fun r σ1 => am_Rn L xs (d + 1) 70 62 ls (r.toList ++ st) σ1 Q)) := am_R_virtual2 d70_59 rfl ⟨by decide, rfl⟩ rfl rfl (by decide)
theorem r70_62 {a1 : Value} {p : Nat} : am_Rn L xs (d + 1) 70 62 ls (a1 :: .ref p :: st) σ Q = ((am_oc σ p = 5 ∧ st.length ≤ 4 ∧ am_ok a1 = true) ∧ am_Call L xs d 74 [.ref p, a1] σ (fun r σ1 => am_Rn L xs (d + 1) 70 65 ls (r.toList ++ st) σ1 Q)) := am_R_virtual1 d70_62 rfl ⟨by decide, rfl⟩ rfl rfl (by decide)
theorem r70_65  : am_Rn L xs d 70 65 ls st σ Q = am_Rn L xs d 70 66 ls (.int 1 :: st) σ Q := am_r_iconst d70_65 (by decide)
theorem r70_66 {v : Int32} (hv : v = 0 ∨ v = 1) : am_Rn L xs d 70 66 ls [.int v] σ Q = Q (some (.int v)) σ := am_r_zreturn d70_66 rfl hv
theorem r70_67  : am_Rn L xs d 70 67 ls st σ Q = am_la ls 0 (fun x => am_Rn L xs d 70 68 ls (x :: st) σ Q) := am_r_aload_n d70_67
theorem r70_68 {p : Nat} : am_Rn L xs d 70 68 ls (.ref p :: st) σ Q = am_fd σ p 5 7 (fun v => am_Rn L xs d 70 71 ls (v :: st) σ Q) := am_r_getfield d70_68 rfl
theorem r70_71  : am_Rn L xs d 70 71 ls st σ Q = am_la ls 0 (fun x => am_Rn L xs d 70 72 ls (x :: st) σ Q) := am_r_aload_n d70_71
theorem r70_72 {p : Nat} : am_Rn L xs d 70 72 ls (.ref p :: st) σ Q = am_fd σ p 5 3 (fun v => am_Rn L xs d 70 75 ls (v :: st) σ Q) := am_r_getfield d70_72 rfl
theorem r70_75  : am_Rn L xs d 70 75 ls st σ Q = am_Rn L xs d 70 76 ls (.int 0 :: st) σ Q := am_r_iconst d70_75 (by decide)
theorem r70_76 {a1 : Value} {p : Nat} : am_Rn L xs (d + 1) 70 76 ls (a1 :: .ref p :: st) σ Q = ((am_oc σ p = 2 ∧ st.length ≤ 4 ∧ am_ok a1 = true) ∧ am_Call L xs d 60 [.ref p, a1] σ (fun r σ1 => am_Rn L xs (d + 1) 70 79 ls (r.toList ++ st) σ1 Q)) := am_R_virtual1 d70_76 rfl ⟨by decide, rfl⟩ rfl rfl (by decide)
theorem r70_79 {a b : Int32} : am_Rn L xs d 70 79 ls (.int b :: .int a :: st) σ Q = am_Rn L xs d 70 80 ls (.int (a + b) :: st) σ Q := am_r_iadd d70_79
theorem r70_80  : am_Rn L xs d 70 80 ls st σ Q = am_la ls 0 (fun x => am_Rn L xs d 70 81 ls (x :: st) σ Q) := am_r_aload_n d70_80
theorem r70_81 {p : Nat} : am_Rn L xs d 70 81 ls (.ref p :: st) σ Q = am_fd σ p 5 8 (fun v => am_Rn L xs d 70 84 ls (v :: st) σ Q) := am_r_getfield d70_81 rfl
theorem r70_84 {a b : Int32} : am_Rn L xs d 70 84 ls (.int b :: .int a :: st) σ Q = am_Rn L xs d 70 85 ls (.int (a + b) :: st) σ Q := am_r_iadd d70_84
theorem r70_85 {x : Int32} : am_Rn L xs d 70 85 ls (.int x :: st) σ Q = (5 < ls.length ∧ am_Rn L xs d 70 87 (ls.set 5 (.int x)) st σ Q) := am_r_istore d70_85
theorem r70_87  : am_Rn L xs d 70 87 ls st σ Q = am_la ls 0 (fun x => am_Rn L xs d 70 88 ls (x :: st) σ Q) := am_r_aload_n d70_87
theorem r70_88  : am_Rn L xs d 70 88 ls st σ Q = am_li ls 5 (fun x => am_Rn L xs d 70 90 ls (.int x :: st) σ Q) := am_r_iload d70_88
theorem r70_90 {a1 : Value} {p : Nat} : am_Rn L xs (d + 1) 70 90 ls (a1 :: .ref p :: st) σ Q = ((am_oc σ p = 5 ∧ st.length ≤ 4 ∧ am_ok a1 = true) ∧ am_Call L xs d 74 [.ref p, a1] σ (fun r σ1 => am_Rn L xs (d + 1) 70 93 ls (r.toList ++ st) σ1 Q)) := am_R_virtual1 d70_90 rfl ⟨by decide, rfl⟩ rfl rfl (by decide)
theorem r70_93  : am_Rn L xs d 70 93 ls st σ Q = am_la ls 0 (fun x => am_Rn L xs d 70 94 ls (x :: st) σ Q) := am_r_aload_n d70_93
theorem r70_94  : am_Rn L xs d 70 94 ls st σ Q = am_li ls 2 (fun x => am_Rn L xs d 70 95 ls (.int x :: st) σ Q) := am_r_iload_n d70_94
theorem r70_95  : am_Rn L xs d 70 95 ls st σ Q = am_li ls 3 (fun x => am_Rn L xs d 70 96 ls (.int x :: st) σ Q) := am_r_iload_n d70_95
theorem r70_96 {a1 a2 : Value} {p : Nat} : am_Rn L xs (d + 1) 70 96 ls (a2 :: a1 :: .ref p :: st) σ Q = ((am_oc σ p = 5 ∧ st.length ≤ 4 ∧ am_ok a1 = true ∧ am_ok a2 = true) ∧ am_Call L xs d 75 [.ref p, a1, a2] σ (fun r σ1 => am_Rn L xs (d + 1) 70 99 ls (r.toList ++ st) σ1 Q)) := am_R_virtual2 d70_96 rfl ⟨by decide, rfl⟩ rfl rfl (by decide)
theorem r70_99 {a : Int32} : am_Rn L xs d 70 99 ls (.int a :: st) σ Q = if ¬ a = 0 then am_Rn L xs d 70 104 ls st σ Q else am_Rn L xs d 70 102 ls st σ Q := (am_r_if (t := 104) d70_99 (by decide)).trans (am_ite _ _ trivial (by simp only [am_cond, decide_eq_true_eq]))
theorem r70_102  : am_Rn L xs d 70 102 ls st σ Q = am_Rn L xs d 70 103 ls (.int 0 :: st) σ Q := am_r_iconst d70_102 (by decide)
theorem r70_103 {v : Int32} (hv : v = 0 ∨ v = 1) : am_Rn L xs d 70 103 ls [.int v] σ Q = Q (some (.int v)) σ := am_r_zreturn d70_103 rfl hv
theorem r70_104  : am_Rn L xs d 70 104 ls st σ Q = am_la ls 0 (fun x => am_Rn L xs d 70 105 ls (x :: st) σ Q) := am_r_aload_n d70_104
theorem r70_105 {p : Nat} : am_Rn L xs d 70 105 ls (.ref p :: st) σ Q = am_fd σ p 5 0 (fun v => am_Rn L xs d 70 108 ls (v :: st) σ Q) := am_r_getfield d70_105 rfl
theorem r70_108  : am_Rn L xs d 70 108 ls st σ Q = am_li ls 5 (fun x => am_Rn L xs d 70 110 ls (.int x :: st) σ Q) := am_r_iload d70_108
theorem r70_110  : am_Rn L xs d 70 110 ls st σ Q = am_la ls 0 (fun x => am_Rn L xs d 70 111 ls (x :: st) σ Q) := am_r_aload_n d70_110
theorem r70_111 {p : Nat} : am_Rn L xs d 70 111 ls (.ref p :: st) σ Q = am_fd σ p 5 4 (fun v => am_Rn L xs d 70 114 ls (v :: st) σ Q) := am_r_getfield d70_111 rfl
theorem r70_114  : am_Rn L xs d 70 114 ls st σ Q = am_li ls 1 (fun x => am_Rn L xs d 70 115 ls (.int x :: st) σ Q) := am_r_iload_n d70_114
theorem r70_115  : am_Rn L xs d 70 115 ls st σ Q = am_Rn L xs d 70 116 ls (.int 4 :: st) σ Q := am_r_iconst d70_115 (by decide)
theorem r70_116 {a1 a2 : Value} {p : Nat} : am_Rn L xs (d + 1) 70 116 ls (a2 :: a1 :: .ref p :: st) σ Q = ((am_oc σ p = 2 ∧ st.length ≤ 4 ∧ am_ok a1 = true ∧ am_ok a2 = true) ∧ am_Call L xs d 58 [.ref p, a1, a2] σ (fun r σ1 => am_Rn L xs (d + 1) 70 119 ls (r.toList ++ st) σ1 Q)) := am_R_virtual2 d70_116 rfl ⟨by decide, rfl⟩ rfl rfl (by decide)
theorem r70_119  : am_Rn L xs d 70 119 ls st σ Q = am_la ls 0 (fun x => am_Rn L xs d 70 120 ls (x :: st) σ Q) := am_r_aload_n d70_119
theorem r70_120 {p : Nat} : am_Rn L xs d 70 120 ls (.ref p :: st) σ Q = am_fd σ p 5 4 (fun v => am_Rn L xs d 70 123 ls (v :: st) σ Q) := am_r_getfield d70_120 rfl
theorem r70_123  : am_Rn L xs d 70 123 ls st σ Q = am_li ls 1 (fun x => am_Rn L xs d 70 124 ls (.int x :: st) σ Q) := am_r_iload_n d70_123
theorem r70_124  : am_Rn L xs d 70 124 ls st σ Q = am_Rn L xs d 70 125 ls (.int 5 :: st) σ Q := am_r_iconst d70_124 (by decide)
theorem r70_125 {a1 a2 : Value} {p : Nat} : am_Rn L xs (d + 1) 70 125 ls (a2 :: a1 :: .ref p :: st) σ Q = ((am_oc σ p = 2 ∧ st.length ≤ 4 ∧ am_ok a1 = true ∧ am_ok a2 = true) ∧ am_Call L xs d 58 [.ref p, a1, a2] σ (fun r σ1 => am_Rn L xs (d + 1) 70 128 ls (r.toList ++ st) σ1 Q)) := am_R_virtual2 d70_125 rfl ⟨by decide, rfl⟩ rfl rfl (by decide)
theorem r70_128 {a1 a2 a3 : Value} {p : Nat} : am_Rn L xs (d + 1) 70 128 ls (a3 :: a2 :: a1 :: .ref p :: st) σ Q = ((am_oc σ p = 1 ∧ st.length ≤ 4 ∧ am_ok a1 = true ∧ am_ok a2 = true ∧ am_ok a3 = true) ∧ am_Call L xs d 12 [.ref p, a1, a2, a3] σ (fun r σ1 => am_Rn L xs (d + 1) 70 131 ls (r.toList ++ st) σ1 Q)) := am_R_virtual3 d70_128 rfl ⟨by decide, rfl⟩ rfl rfl (by decide)
theorem r70_131  : am_Rn L xs d 70 131 ls st σ Q = am_la ls 0 (fun x => am_Rn L xs d 70 132 ls (x :: st) σ Q) := am_r_aload_n d70_131
theorem r70_132 {p : Nat} : am_Rn L xs d 70 132 ls (.ref p :: st) σ Q = am_fd σ p 5 0 (fun v => am_Rn L xs d 70 135 ls (v :: st) σ Q) := am_r_getfield d70_132 rfl
theorem r70_135  : am_Rn L xs d 70 135 ls st σ Q = am_li ls 5 (fun x => am_Rn L xs d 70 137 ls (.int x :: st) σ Q) := am_r_iload d70_135
theorem r70_137  : am_Rn L xs d 70 137 ls st σ Q = am_li ls 2 (fun x => am_Rn L xs d 70 138 ls (.int x :: st) σ Q) := am_r_iload_n d70_137
theorem r70_138  : am_Rn L xs d 70 138 ls st σ Q = am_li ls 3 (fun x => am_Rn L xs d 70 139 ls (.int x :: st) σ Q) := am_r_iload_n d70_138
theorem r70_139 {a1 a2 a3 : Value} {p : Nat} : am_Rn L xs (d + 1) 70 139 ls (a3 :: a2 :: a1 :: .ref p :: st) σ Q = ((am_oc σ p = 1 ∧ st.length ≤ 4 ∧ am_ok a1 = true ∧ am_ok a2 = true ∧ am_ok a3 = true) ∧ am_Call L xs d 13 [.ref p, a1, a2, a3] σ (fun r σ1 => am_Rn L xs (d + 1) 70 142 ls (r.toList ++ st) σ1 Q)) := am_R_virtual3 d70_139 rfl ⟨by decide, rfl⟩ rfl rfl (by decide)
theorem r70_142  : am_Rn L xs d 70 142 ls st σ Q = am_Rn L xs d 70 143 ls (.int 1 :: st) σ Q := am_r_iconst d70_142 (by decide)
theorem r70_143 {v : Int32} (hv : v = 0 ∨ v = 1) : am_Rn L xs d 70 143 ls [.int v] σ Q = Q (some (.int v)) σ := am_r_zreturn d70_143 rfl hv
theorem d71_0 : decode (pg_code 71) 0 = .ok (.iload_n 1, 1) := by decide +kernel
theorem d71_1 : decode (pg_code 71) 1 = .ok (.aload_n 0, 1) := by decide +kernel
theorem d71_2 : decode (pg_code 71) 2 = .ok (.getfield 48, 3) := by decide +kernel
theorem d71_5 : decode (pg_code 71) 5 = .ok (.isub, 1) := by decide +kernel
theorem d71_6 : decode (pg_code 71) 6 = .ok (.istore_n 2, 1) := by decide +kernel
theorem d71_7 : decode (pg_code 71) 7 = .ok (.iload_n 2, 1) := by decide +kernel
theorem d71_8 : decode (pg_code 71) 8 = .ok (.ifCond .lt 20, 3) := by decide +kernel
theorem d71_11 : decode (pg_code 71) 11 = .ok (.iload_n 2, 1) := by decide +kernel
theorem d71_12 : decode (pg_code 71) 12 = .ok (.aload_n 0, 1) := by decide +kernel
theorem d71_13 : decode (pg_code 71) 13 = .ok (.getfield 52, 3) := by decide +kernel
theorem d71_16 : decode (pg_code 71) 16 = .ok (.if_icmp .ge 12, 3) := by decide +kernel
theorem d71_19 : decode (pg_code 71) 19 = .ok (.aload_n 0, 1) := by decide +kernel
theorem d71_20 : decode (pg_code 71) 20 = .ok (.getfield 44, 3) := by decide +kernel
theorem d71_23 : decode (pg_code 71) 23 = .ok (.iload_n 2, 1) := by decide +kernel
theorem d71_24 : decode (pg_code 71) 24 = .ok (.iaload, 1) := by decide +kernel
theorem d71_25 : decode (pg_code 71) 25 = .ok (.goto 4, 3) := by decide +kernel
theorem d71_28 : decode (pg_code 71) 28 = .ok (.iload_n 1, 1) := by decide +kernel
theorem d71_29 : decode (pg_code 71) 29 = .ok (.ireturn, 1) := by decide +kernel
theorem e71 {b1 b2 : Value} : am_Call L xs d 71 [b1, b2] σ Q = am_Rn L xs d 71 0 [b1, b2, .retAddr 0] [] σ Q := rfl
theorem r71_0  : am_Rn L xs d 71 0 ls st σ Q = am_li ls 1 (fun x => am_Rn L xs d 71 1 ls (.int x :: st) σ Q) := am_r_iload_n d71_0
theorem r71_1  : am_Rn L xs d 71 1 ls st σ Q = am_la ls 0 (fun x => am_Rn L xs d 71 2 ls (x :: st) σ Q) := am_r_aload_n d71_1
theorem r71_2 {p : Nat} : am_Rn L xs d 71 2 ls (.ref p :: st) σ Q = am_fd σ p 5 7 (fun v => am_Rn L xs d 71 5 ls (v :: st) σ Q) := am_r_getfield d71_2 rfl
theorem r71_5 {a b : Int32} : am_Rn L xs d 71 5 ls (.int b :: .int a :: st) σ Q = am_Rn L xs d 71 6 ls (.int (a - b) :: st) σ Q := am_r_isub d71_5
theorem r71_6 {x : Int32} : am_Rn L xs d 71 6 ls (.int x :: st) σ Q = (2 < ls.length ∧ am_Rn L xs d 71 7 (ls.set 2 (.int x)) st σ Q) := am_r_istore_n d71_6
theorem r71_7  : am_Rn L xs d 71 7 ls st σ Q = am_li ls 2 (fun x => am_Rn L xs d 71 8 ls (.int x :: st) σ Q) := am_r_iload_n d71_7
theorem r71_8 {a : Int32} : am_Rn L xs d 71 8 ls (.int a :: st) σ Q = if a < 0 then am_Rn L xs d 71 28 ls st σ Q else am_Rn L xs d 71 11 ls st σ Q := (am_r_if (t := 28) d71_8 (by decide)).trans (am_ite _ _ trivial (by simp only [am_cond, decide_eq_true_eq]))
theorem r71_11  : am_Rn L xs d 71 11 ls st σ Q = am_li ls 2 (fun x => am_Rn L xs d 71 12 ls (.int x :: st) σ Q) := am_r_iload_n d71_11
theorem r71_12  : am_Rn L xs d 71 12 ls st σ Q = am_la ls 0 (fun x => am_Rn L xs d 71 13 ls (x :: st) σ Q) := am_r_aload_n d71_12
theorem r71_13 {p : Nat} : am_Rn L xs d 71 13 ls (.ref p :: st) σ Q = am_fd σ p 5 8 (fun v => am_Rn L xs d 71 16 ls (v :: st) σ Q) := am_r_getfield d71_13 rfl
theorem r71_16 {a b : Int32} : am_Rn L xs d 71 16 ls (.int b :: .int a :: st) σ Q = if b ≤ a then am_Rn L xs d 71 28 ls st σ Q else am_Rn L xs d 71 19 ls st σ Q := (am_r_icmp (t := 28) d71_16 (by decide)).trans (am_ite _ _ trivial (by simp only [am_cond, decide_eq_true_eq]))
theorem r71_19  : am_Rn L xs d 71 19 ls st σ Q = am_la ls 0 (fun x => am_Rn L xs d 71 20 ls (x :: st) σ Q) := am_r_aload_n d71_19
theorem r71_20 {p : Nat} : am_Rn L xs d 71 20 ls (.ref p :: st) σ Q = am_fd σ p 5 6 (fun v => am_Rn L xs d 71 23 ls (v :: st) σ Q) := am_r_getfield d71_20 rfl
theorem r71_23  : am_Rn L xs d 71 23 ls st σ Q = am_li ls 2 (fun x => am_Rn L xs d 71 24 ls (.int x :: st) σ Q) := am_r_iload_n d71_23
theorem r71_24 {p : Nat} {i : Int32} : am_Rn L xs d 71 24 ls (.int i :: .ref p :: st) σ Q = am_ai 0 σ p i (fun x => am_Rn L xs d 71 25 ls (.int x :: st) σ Q) := am_r_iaload d71_24
theorem r71_25  : am_Rn L xs d 71 25 ls st σ Q = am_Rn L xs d 71 29 ls st σ Q := am_r_goto d71_25 (by decide)
theorem r71_28  : am_Rn L xs d 71 28 ls st σ Q = am_li ls 1 (fun x => am_Rn L xs d 71 29 ls (.int x :: st) σ Q) := am_r_iload_n d71_28
theorem r71_29 {v : Int32} : am_Rn L xs d 71 29 ls [.int v] σ Q = Q (some (.int v)) σ := am_r_ireturn d71_29 rfl
theorem d72_0 : decode (pg_code 72) 0 = .ok (.iconst 0, 1) := by decide +kernel
theorem d72_1 : decode (pg_code 72) 1 = .ok (.istore 4, 2) := by decide +kernel
theorem d72_3 : decode (pg_code 72) 3 = .ok (.iload 4, 2) := by decide +kernel
theorem d72_5 : decode (pg_code 72) 5 = .ok (.aload_n 0, 1) := by decide +kernel
theorem d72_6 : decode (pg_code 72) 6 = .ok (.getfield 34, 3) := by decide +kernel
theorem d72_9 : decode (pg_code 72) 9 = .ok (.getfield 66, 3) := by decide +kernel
theorem d72_12 : decode (pg_code 72) 12 = .ok (.if_icmp .ge 102, 3) := by decide +kernel
theorem d72_15 : decode (pg_code 72) 15 = .ok (.aload_n 0, 1) := by decide +kernel
theorem d72_16 : decode (pg_code 72) 16 = .ok (.getfield 34, 3) := by decide +kernel
theorem d72_19 : decode (pg_code 72) 19 = .ok (.iload 4, 2) := by decide +kernel
theorem d72_21 : decode (pg_code 72) 21 = .ok (.iconst 0, 1) := by decide +kernel
theorem d72_22 : decode (pg_code 72) 22 = .ok (.invokevirtual 79, 3) := by decide +kernel
theorem d72_25 : decode (pg_code 72) 25 = .ok (.ifCond .ne 17, 3) := by decide +kernel
theorem d72_28 : decode (pg_code 72) 28 = .ok (.aload_n 0, 1) := by decide +kernel
theorem d72_29 : decode (pg_code 72) 29 = .ok (.getfield 40, 3) := by decide +kernel
theorem d72_32 : decode (pg_code 72) 32 = .ok (.iload 4, 2) := by decide +kernel
theorem d72_34 : decode (pg_code 72) 34 = .ok (.baload, 1) := by decide +kernel
theorem d72_35 : decode (pg_code 72) 35 = .ok (.ifCond .ne 7, 3) := by decide +kernel
theorem d72_38 : decode (pg_code 72) 38 = .ok (.iconst 1, 1) := by decide +kernel
theorem d72_39 : decode (pg_code 72) 39 = .ok (.goto 4, 3) := by decide +kernel
theorem d72_42 : decode (pg_code 72) 42 = .ok (.iconst 0, 1) := by decide +kernel
theorem d72_43 : decode (pg_code 72) 43 = .ok (.istore 5, 2) := by decide +kernel
theorem d72_45 : decode (pg_code 72) 45 = .ok (.iload 5, 2) := by decide +kernel
theorem d72_47 : decode (pg_code 72) 47 = .ok (.ifCond .eq 61, 3) := by decide +kernel
theorem d72_50 : decode (pg_code 72) 50 = .ok (.aload_n 0, 1) := by decide +kernel
theorem d72_51 : decode (pg_code 72) 51 = .ok (.iload 4, 2) := by decide +kernel
theorem d72_53 : decode (pg_code 72) 53 = .ok (.iload_n 2, 1) := by decide +kernel
theorem d72_54 : decode (pg_code 72) 54 = .ok (.iload_n 3, 1) := by decide +kernel
theorem d72_55 : decode (pg_code 72) 55 = .ok (.invokevirtual 129, 3) := by decide +kernel
theorem d72_58 : decode (pg_code 72) 58 = .ok (.ifCond .eq 50, 3) := by decide +kernel
theorem d72_61 : decode (pg_code 72) 61 = .ok (.aload_n 0, 1) := by decide +kernel
theorem d72_62 : decode (pg_code 72) 62 = .ok (.getfield 34, 3) := by decide +kernel
theorem d72_65 : decode (pg_code 72) 65 = .ok (.iload 4, 2) := by decide +kernel
theorem d72_67 : decode (pg_code 72) 67 = .ok (.iconst 4, 1) := by decide +kernel
theorem d72_68 : decode (pg_code 72) 68 = .ok (.invokevirtual 79, 3) := by decide +kernel
theorem d72_71 : decode (pg_code 72) 71 = .ok (.aload_n 0, 1) := by decide +kernel
theorem d72_72 : decode (pg_code 72) 72 = .ok (.getfield 37, 3) := by decide +kernel
theorem d72_75 : decode (pg_code 72) 75 = .ok (.iload_n 1, 1) := by decide +kernel
theorem d72_76 : decode (pg_code 72) 76 = .ok (.iconst 4, 1) := by decide +kernel
theorem d72_77 : decode (pg_code 72) 77 = .ok (.invokevirtual 79, 3) := by decide +kernel
theorem d72_80 : decode (pg_code 72) 80 = .ok (.if_icmp .ne 28, 3) := by decide +kernel
theorem d72_83 : decode (pg_code 72) 83 = .ok (.aload_n 0, 1) := by decide +kernel
theorem d72_84 : decode (pg_code 72) 84 = .ok (.getfield 34, 3) := by decide +kernel
theorem d72_87 : decode (pg_code 72) 87 = .ok (.iload 4, 2) := by decide +kernel
theorem d72_89 : decode (pg_code 72) 89 = .ok (.iconst 5, 1) := by decide +kernel
theorem d72_90 : decode (pg_code 72) 90 = .ok (.invokevirtual 79, 3) := by decide +kernel
theorem d72_93 : decode (pg_code 72) 93 = .ok (.aload_n 0, 1) := by decide +kernel
theorem d72_94 : decode (pg_code 72) 94 = .ok (.getfield 37, 3) := by decide +kernel
theorem d72_97 : decode (pg_code 72) 97 = .ok (.iload_n 1, 1) := by decide +kernel
theorem d72_98 : decode (pg_code 72) 98 = .ok (.iconst 5, 1) := by decide +kernel
theorem d72_99 : decode (pg_code 72) 99 = .ok (.invokevirtual 79, 3) := by decide +kernel
theorem d72_102 : decode (pg_code 72) 102 = .ok (.if_icmp .ne 6, 3) := by decide +kernel
theorem d72_105 : decode (pg_code 72) 105 = .ok (.iload 4, 2) := by decide +kernel
theorem d72_107 : decode (pg_code 72) 107 = .ok (.ireturn, 1) := by decide +kernel
theorem d72_108 : decode (pg_code 72) 108 = .ok (.iinc 4 1, 3) := by decide +kernel
theorem d72_111 : decode (pg_code 72) 111 = .ok (.goto (-108), 3) := by decide +kernel
theorem d72_114 : decode (pg_code 72) 114 = .ok (.iconst (-1), 1) := by decide +kernel
theorem d72_115 : decode (pg_code 72) 115 = .ok (.ireturn, 1) := by decide +kernel
theorem e72 {b1 b2 b3 b4 : Value} : am_Call L xs d 72 [b1, b2, b3, b4] σ Q = am_Rn L xs d 72 0 [b1, b2, b3, b4, .retAddr 0, .retAddr 0] [] σ Q := rfl
theorem r72_0  : am_Rn L xs d 72 0 ls st σ Q = am_Rn L xs d 72 1 ls (.int 0 :: st) σ Q := am_r_iconst d72_0 (by decide)
theorem r72_1 {x : Int32} : am_Rn L xs d 72 1 ls (.int x :: st) σ Q = (4 < ls.length ∧ am_Rn L xs d 72 3 (ls.set 4 (.int x)) st σ Q) := am_r_istore d72_1
theorem r72_3  : am_Rn L xs d 72 3 ls st σ Q = am_li ls 4 (fun x => am_Rn L xs d 72 5 ls (.int x :: st) σ Q) := am_r_iload d72_3
theorem r72_5  : am_Rn L xs d 72 5 ls st σ Q = am_la ls 0 (fun x => am_Rn L xs d 72 6 ls (x :: st) σ Q) := am_r_aload_n d72_5
theorem r72_6 {p : Nat} : am_Rn L xs d 72 6 ls (.ref p :: st) σ Q = am_fd σ p 5 3 (fun v => am_Rn L xs d 72 9 ls (v :: st) σ Q) := am_r_getfield d72_6 rfl
theorem r72_9 {p : Nat} : am_Rn L xs d 72 9 ls (.ref p :: st) σ Q = am_fd σ p 2 1 (fun v => am_Rn L xs d 72 12 ls (v :: st) σ Q) := am_r_getfield d72_9 rfl
theorem r72_12 {a b : Int32} : am_Rn L xs d 72 12 ls (.int b :: .int a :: st) σ Q = if b ≤ a then am_Rn L xs d 72 114 ls st σ Q else am_Rn L xs d 72 15 ls st σ Q := (am_r_icmp (t := 114) d72_12 (by decide)).trans (am_ite _ _ trivial (by simp only [am_cond, decide_eq_true_eq]))
theorem r72_15  : am_Rn L xs d 72 15 ls st σ Q = am_la ls 0 (fun x => am_Rn L xs d 72 16 ls (x :: st) σ Q) := am_r_aload_n d72_15
theorem r72_16 {p : Nat} : am_Rn L xs d 72 16 ls (.ref p :: st) σ Q = am_fd σ p 5 3 (fun v => am_Rn L xs d 72 19 ls (v :: st) σ Q) := am_r_getfield d72_16 rfl
theorem r72_19  : am_Rn L xs d 72 19 ls st σ Q = am_li ls 4 (fun x => am_Rn L xs d 72 21 ls (.int x :: st) σ Q) := am_r_iload d72_19
theorem r72_21  : am_Rn L xs d 72 21 ls st σ Q = am_Rn L xs d 72 22 ls (.int 0 :: st) σ Q := am_r_iconst d72_21 (by decide)
theorem r72_22 {a1 a2 : Value} {p : Nat} : am_Rn L xs (d + 1) 72 22 ls (a2 :: a1 :: .ref p :: st) σ Q = ((am_oc σ p = 2 ∧ st.length ≤ 4 ∧ am_ok a1 = true ∧ am_ok a2 = true) ∧ am_Call L xs d 58 [.ref p, a1, a2] σ (fun r σ1 => am_Rn L xs (d + 1) 72 25 ls (r.toList ++ st) σ1 Q)) := am_R_virtual2 d72_22 rfl ⟨by decide, rfl⟩ rfl rfl (by decide)
theorem r72_25 {a : Int32} : am_Rn L xs d 72 25 ls (.int a :: st) σ Q = if ¬ a = 0 then am_Rn L xs d 72 42 ls st σ Q else am_Rn L xs d 72 28 ls st σ Q := (am_r_if (t := 42) d72_25 (by decide)).trans (am_ite _ _ trivial (by simp only [am_cond, decide_eq_true_eq]))
theorem r72_28  : am_Rn L xs d 72 28 ls st σ Q = am_la ls 0 (fun x => am_Rn L xs d 72 29 ls (x :: st) σ Q) := am_r_aload_n d72_28
theorem r72_29 {p : Nat} : am_Rn L xs d 72 29 ls (.ref p :: st) σ Q = am_fd σ p 5 5 (fun v => am_Rn L xs d 72 32 ls (v :: st) σ Q) := am_r_getfield d72_29 rfl
theorem r72_32  : am_Rn L xs d 72 32 ls st σ Q = am_li ls 4 (fun x => am_Rn L xs d 72 34 ls (.int x :: st) σ Q) := am_r_iload d72_32
theorem r72_34 {p : Nat} {i : Int32} : am_Rn L xs d 72 34 ls (.int i :: .ref p :: st) σ Q = am_ai 1 σ p i (fun x => am_Rn L xs d 72 35 ls (.int x :: st) σ Q) := am_r_baload d72_34
theorem r72_35 {a : Int32} : am_Rn L xs d 72 35 ls (.int a :: st) σ Q = if ¬ a = 0 then am_Rn L xs d 72 42 ls st σ Q else am_Rn L xs d 72 38 ls st σ Q := (am_r_if (t := 42) d72_35 (by decide)).trans (am_ite _ _ trivial (by simp only [am_cond, decide_eq_true_eq]))
theorem r72_38  : am_Rn L xs d 72 38 ls st σ Q = am_Rn L xs d 72 39 ls (.int 1 :: st) σ Q := am_r_iconst d72_38 (by decide)
theorem r72_39  : am_Rn L xs d 72 39 ls st σ Q = am_Rn L xs d 72 43 ls st σ Q := am_r_goto d72_39 (by decide)
theorem r72_42  : am_Rn L xs d 72 42 ls st σ Q = am_Rn L xs d 72 43 ls (.int 0 :: st) σ Q := am_r_iconst d72_42 (by decide)
theorem r72_43 {x : Int32} : am_Rn L xs d 72 43 ls (.int x :: st) σ Q = (5 < ls.length ∧ am_Rn L xs d 72 45 (ls.set 5 (.int x)) st σ Q) := am_r_istore d72_43
theorem r72_45  : am_Rn L xs d 72 45 ls st σ Q = am_li ls 5 (fun x => am_Rn L xs d 72 47 ls (.int x :: st) σ Q) := am_r_iload d72_45
theorem r72_47 {a : Int32} : am_Rn L xs d 72 47 ls (.int a :: st) σ Q = if a = 0 then am_Rn L xs d 72 108 ls st σ Q else am_Rn L xs d 72 50 ls st σ Q := (am_r_if (t := 108) d72_47 (by decide)).trans (am_ite _ _ trivial (by simp only [am_cond, decide_eq_true_eq]))
theorem r72_50  : am_Rn L xs d 72 50 ls st σ Q = am_la ls 0 (fun x => am_Rn L xs d 72 51 ls (x :: st) σ Q) := am_r_aload_n d72_50
theorem r72_51  : am_Rn L xs d 72 51 ls st σ Q = am_li ls 4 (fun x => am_Rn L xs d 72 53 ls (.int x :: st) σ Q) := am_r_iload d72_51
theorem r72_53  : am_Rn L xs d 72 53 ls st σ Q = am_li ls 2 (fun x => am_Rn L xs d 72 54 ls (.int x :: st) σ Q) := am_r_iload_n d72_53
theorem r72_54  : am_Rn L xs d 72 54 ls st σ Q = am_li ls 3 (fun x => am_Rn L xs d 72 55 ls (.int x :: st) σ Q) := am_r_iload_n d72_54
theorem r72_55 {a1 a2 a3 : Value} {p : Nat} : am_Rn L xs (d + 1) 72 55 ls (a3 :: a2 :: a1 :: .ref p :: st) σ Q = ((am_oc σ p = 5 ∧ st.length ≤ 4 ∧ am_ok a1 = true ∧ am_ok a2 = true ∧ am_ok a3 = true) ∧ am_Call L xs d 73 [.ref p, a1, a2, a3] σ (fun r σ1 => am_Rn L xs (d + 1) 72 58 ls (r.toList ++ st) σ1 Q)) := am_R_virtual3 d72_55 rfl ⟨by decide, rfl⟩ rfl rfl (by decide)
theorem r72_58 {a : Int32} : am_Rn L xs d 72 58 ls (.int a :: st) σ Q = if a = 0 then am_Rn L xs d 72 108 ls st σ Q else am_Rn L xs d 72 61 ls st σ Q := (am_r_if (t := 108) d72_58 (by decide)).trans (am_ite _ _ trivial (by simp only [am_cond, decide_eq_true_eq]))
theorem r72_61  : am_Rn L xs d 72 61 ls st σ Q = am_la ls 0 (fun x => am_Rn L xs d 72 62 ls (x :: st) σ Q) := am_r_aload_n d72_61
theorem r72_62 {p : Nat} : am_Rn L xs d 72 62 ls (.ref p :: st) σ Q = am_fd σ p 5 3 (fun v => am_Rn L xs d 72 65 ls (v :: st) σ Q) := am_r_getfield d72_62 rfl
theorem r72_65  : am_Rn L xs d 72 65 ls st σ Q = am_li ls 4 (fun x => am_Rn L xs d 72 67 ls (.int x :: st) σ Q) := am_r_iload d72_65
theorem r72_67  : am_Rn L xs d 72 67 ls st σ Q = am_Rn L xs d 72 68 ls (.int 4 :: st) σ Q := am_r_iconst d72_67 (by decide)
theorem r72_68 {a1 a2 : Value} {p : Nat} : am_Rn L xs (d + 1) 72 68 ls (a2 :: a1 :: .ref p :: st) σ Q = ((am_oc σ p = 2 ∧ st.length ≤ 4 ∧ am_ok a1 = true ∧ am_ok a2 = true) ∧ am_Call L xs d 58 [.ref p, a1, a2] σ (fun r σ1 => am_Rn L xs (d + 1) 72 71 ls (r.toList ++ st) σ1 Q)) := am_R_virtual2 d72_68 rfl ⟨by decide, rfl⟩ rfl rfl (by decide)
theorem r72_71  : am_Rn L xs d 72 71 ls st σ Q = am_la ls 0 (fun x => am_Rn L xs d 72 72 ls (x :: st) σ Q) := am_r_aload_n d72_71
theorem r72_72 {p : Nat} : am_Rn L xs d 72 72 ls (.ref p :: st) σ Q = am_fd σ p 5 4 (fun v => am_Rn L xs d 72 75 ls (v :: st) σ Q) := am_r_getfield d72_72 rfl
theorem r72_75  : am_Rn L xs d 72 75 ls st σ Q = am_li ls 1 (fun x => am_Rn L xs d 72 76 ls (.int x :: st) σ Q) := am_r_iload_n d72_75
theorem r72_76  : am_Rn L xs d 72 76 ls st σ Q = am_Rn L xs d 72 77 ls (.int 4 :: st) σ Q := am_r_iconst d72_76 (by decide)
theorem r72_77 {a1 a2 : Value} {p : Nat} : am_Rn L xs (d + 1) 72 77 ls (a2 :: a1 :: .ref p :: st) σ Q = ((am_oc σ p = 2 ∧ st.length ≤ 4 ∧ am_ok a1 = true ∧ am_ok a2 = true) ∧ am_Call L xs d 58 [.ref p, a1, a2] σ (fun r σ1 => am_Rn L xs (d + 1) 72 80 ls (r.toList ++ st) σ1 Q)) := am_R_virtual2 d72_77 rfl ⟨by decide, rfl⟩ rfl rfl (by decide)
theorem r72_80 {a b : Int32} : am_Rn L xs d 72 80 ls (.int b :: .int a :: st) σ Q = if ¬ a = b then am_Rn L xs d 72 108 ls st σ Q else am_Rn L xs d 72 83 ls st σ Q := (am_r_icmp (t := 108) d72_80 (by decide)).trans (am_ite _ _ trivial (by simp only [am_cond, decide_eq_true_eq]))
theorem r72_83  : am_Rn L xs d 72 83 ls st σ Q = am_la ls 0 (fun x => am_Rn L xs d 72 84 ls (x :: st) σ Q) := am_r_aload_n d72_83
theorem r72_84 {p : Nat} : am_Rn L xs d 72 84 ls (.ref p :: st) σ Q = am_fd σ p 5 3 (fun v => am_Rn L xs d 72 87 ls (v :: st) σ Q) := am_r_getfield d72_84 rfl
theorem r72_87  : am_Rn L xs d 72 87 ls st σ Q = am_li ls 4 (fun x => am_Rn L xs d 72 89 ls (.int x :: st) σ Q) := am_r_iload d72_87
theorem r72_89  : am_Rn L xs d 72 89 ls st σ Q = am_Rn L xs d 72 90 ls (.int 5 :: st) σ Q := am_r_iconst d72_89 (by decide)
theorem r72_90 {a1 a2 : Value} {p : Nat} : am_Rn L xs (d + 1) 72 90 ls (a2 :: a1 :: .ref p :: st) σ Q = ((am_oc σ p = 2 ∧ st.length ≤ 4 ∧ am_ok a1 = true ∧ am_ok a2 = true) ∧ am_Call L xs d 58 [.ref p, a1, a2] σ (fun r σ1 => am_Rn L xs (d + 1) 72 93 ls (r.toList ++ st) σ1 Q)) := am_R_virtual2 d72_90 rfl ⟨by decide, rfl⟩ rfl rfl (by decide)
theorem r72_93  : am_Rn L xs d 72 93 ls st σ Q = am_la ls 0 (fun x => am_Rn L xs d 72 94 ls (x :: st) σ Q) := am_r_aload_n d72_93
theorem r72_94 {p : Nat} : am_Rn L xs d 72 94 ls (.ref p :: st) σ Q = am_fd σ p 5 4 (fun v => am_Rn L xs d 72 97 ls (v :: st) σ Q) := am_r_getfield d72_94 rfl
theorem r72_97  : am_Rn L xs d 72 97 ls st σ Q = am_li ls 1 (fun x => am_Rn L xs d 72 98 ls (.int x :: st) σ Q) := am_r_iload_n d72_97
theorem r72_98  : am_Rn L xs d 72 98 ls st σ Q = am_Rn L xs d 72 99 ls (.int 5 :: st) σ Q := am_r_iconst d72_98 (by decide)
theorem r72_99 {a1 a2 : Value} {p : Nat} : am_Rn L xs (d + 1) 72 99 ls (a2 :: a1 :: .ref p :: st) σ Q = ((am_oc σ p = 2 ∧ st.length ≤ 4 ∧ am_ok a1 = true ∧ am_ok a2 = true) ∧ am_Call L xs d 58 [.ref p, a1, a2] σ (fun r σ1 => am_Rn L xs (d + 1) 72 102 ls (r.toList ++ st) σ1 Q)) := am_R_virtual2 d72_99 rfl ⟨by decide, rfl⟩ rfl rfl (by decide)
theorem r72_102 {a b : Int32} : am_Rn L xs d 72 102 ls (.int b :: .int a :: st) σ Q = if ¬ a = b then am_Rn L xs d 72 108 ls st σ Q else am_Rn L xs d 72 105 ls st σ Q := (am_r_icmp (t := 108) d72_102 (by decide)).trans (am_ite _ _ trivial (by simp only [am_cond, decide_eq_true_eq]))
theorem r72_105  : am_Rn L xs d 72 105 ls st σ Q = am_li ls 4 (fun x => am_Rn L xs d 72 107 ls (.int x :: st) σ Q) := am_r_iload d72_105
theorem r72_107 {v : Int32} : am_Rn L xs d 72 107 ls [.int v] σ Q = Q (some (.int v)) σ := am_r_ireturn d72_107 rfl
theorem r72_108  : am_Rn L xs d 72 108 ls st σ Q = am_li ls 4 (fun x => am_Rn L xs d 72 111 (ls.set 4 (.int (x + 1))) st σ Q) := am_r_iinc d72_108 (by decide)
theorem r72_111  : am_Rn L xs d 72 111 ls st σ Q = am_Rn L xs d 72 3 ls st σ Q := am_r_goto d72_111 (by decide)
theorem r72_114  : am_Rn L xs d 72 114 ls st σ Q = am_Rn L xs d 72 115 ls (.int (-1) :: st) σ Q := am_r_iconst d72_114 (by decide)
theorem r72_115 {v : Int32} : am_Rn L xs d 72 115 ls [.int v] σ Q = Q (some (.int v)) σ := am_r_ireturn d72_115 rfl
theorem d73_0 : decode (pg_code 73) 0 = .ok (.aload_n 0, 1) := by decide +kernel
theorem d73_1 : decode (pg_code 73) 1 = .ok (.getfield 34, 3) := by decide +kernel
theorem d73_4 : decode (pg_code 73) 4 = .ok (.iload_n 1, 1) := by decide +kernel
theorem d73_5 : decode (pg_code 73) 5 = .ok (.iconst 2, 1) := by decide +kernel
theorem d73_6 : decode (pg_code 73) 6 = .ok (.invokevirtual 79, 3) := by decide +kernel
theorem d73_9 : decode (pg_code 73) 9 = .ok (.iload_n 2, 1) := by decide +kernel
theorem d73_10 : decode (pg_code 73) 10 = .ok (.if_icmp .ne 20, 3) := by decide +kernel
theorem d73_13 : decode (pg_code 73) 13 = .ok (.aload_n 0, 1) := by decide +kernel
theorem d73_14 : decode (pg_code 73) 14 = .ok (.getfield 34, 3) := by decide +kernel
theorem d73_17 : decode (pg_code 73) 17 = .ok (.iload_n 1, 1) := by decide +kernel
theorem d73_18 : decode (pg_code 73) 18 = .ok (.iconst 3, 1) := by decide +kernel
theorem d73_19 : decode (pg_code 73) 19 = .ok (.invokevirtual 79, 3) := by decide +kernel
theorem d73_22 : decode (pg_code 73) 22 = .ok (.iload_n 3, 1) := by decide +kernel
theorem d73_23 : decode (pg_code 73) 23 = .ok (.if_icmp .ne 7, 3) := by decide +kernel
theorem d73_26 : decode (pg_code 73) 26 = .ok (.iconst 1, 1) := by decide +kernel
theorem d73_27 : decode (pg_code 73) 27 = .ok (.goto 4, 3) := by decide +kernel
theorem d73_30 : decode (pg_code 73) 30 = .ok (.iconst 0, 1) := by decide +kernel
theorem d73_31 : decode (pg_code 73) 31 = .ok (.ireturn, 1) := by decide +kernel
theorem e73 {b1 b2 b3 b4 : Value} : am_Call L xs d 73 [b1, b2, b3, b4] σ Q = am_Rn L xs d 73 0 [b1, b2, b3, b4] [] σ Q := rfl
theorem r73_0  : am_Rn L xs d 73 0 ls st σ Q = am_la ls 0 (fun x => am_Rn L xs d 73 1 ls (x :: st) σ Q) := am_r_aload_n d73_0
theorem r73_1 {p : Nat} : am_Rn L xs d 73 1 ls (.ref p :: st) σ Q = am_fd σ p 5 3 (fun v => am_Rn L xs d 73 4 ls (v :: st) σ Q) := am_r_getfield d73_1 rfl
theorem r73_4  : am_Rn L xs d 73 4 ls st σ Q = am_li ls 1 (fun x => am_Rn L xs d 73 5 ls (.int x :: st) σ Q) := am_r_iload_n d73_4
theorem r73_5  : am_Rn L xs d 73 5 ls st σ Q = am_Rn L xs d 73 6 ls (.int 2 :: st) σ Q := am_r_iconst d73_5 (by decide)
theorem r73_6 {a1 a2 : Value} {p : Nat} : am_Rn L xs (d + 1) 73 6 ls (a2 :: a1 :: .ref p :: st) σ Q = ((am_oc σ p = 2 ∧ st.length ≤ 4 ∧ am_ok a1 = true ∧ am_ok a2 = true) ∧ am_Call L xs d 58 [.ref p, a1, a2] σ (fun r σ1 => am_Rn L xs (d + 1) 73 9 ls (r.toList ++ st) σ1 Q)) := am_R_virtual2 d73_6 rfl ⟨by decide, rfl⟩ rfl rfl (by decide)
theorem r73_9  : am_Rn L xs d 73 9 ls st σ Q = am_li ls 2 (fun x => am_Rn L xs d 73 10 ls (.int x :: st) σ Q) := am_r_iload_n d73_9
theorem r73_10 {a b : Int32} : am_Rn L xs d 73 10 ls (.int b :: .int a :: st) σ Q = if ¬ a = b then am_Rn L xs d 73 30 ls st σ Q else am_Rn L xs d 73 13 ls st σ Q := (am_r_icmp (t := 30) d73_10 (by decide)).trans (am_ite _ _ trivial (by simp only [am_cond, decide_eq_true_eq]))
theorem r73_13  : am_Rn L xs d 73 13 ls st σ Q = am_la ls 0 (fun x => am_Rn L xs d 73 14 ls (x :: st) σ Q) := am_r_aload_n d73_13
theorem r73_14 {p : Nat} : am_Rn L xs d 73 14 ls (.ref p :: st) σ Q = am_fd σ p 5 3 (fun v => am_Rn L xs d 73 17 ls (v :: st) σ Q) := am_r_getfield d73_14 rfl
theorem r73_17  : am_Rn L xs d 73 17 ls st σ Q = am_li ls 1 (fun x => am_Rn L xs d 73 18 ls (.int x :: st) σ Q) := am_r_iload_n d73_17
theorem r73_18  : am_Rn L xs d 73 18 ls st σ Q = am_Rn L xs d 73 19 ls (.int 3 :: st) σ Q := am_r_iconst d73_18 (by decide)
theorem r73_19 {a1 a2 : Value} {p : Nat} : am_Rn L xs (d + 1) 73 19 ls (a2 :: a1 :: .ref p :: st) σ Q = ((am_oc σ p = 2 ∧ st.length ≤ 4 ∧ am_ok a1 = true ∧ am_ok a2 = true) ∧ am_Call L xs d 58 [.ref p, a1, a2] σ (fun r σ1 => am_Rn L xs (d + 1) 73 22 ls (r.toList ++ st) σ1 Q)) := am_R_virtual2 d73_19 rfl ⟨by decide, rfl⟩ rfl rfl (by decide)
theorem r73_22  : am_Rn L xs d 73 22 ls st σ Q = am_li ls 3 (fun x => am_Rn L xs d 73 23 ls (.int x :: st) σ Q) := am_r_iload_n d73_22
theorem r73_23 {a b : Int32} : am_Rn L xs d 73 23 ls (.int b :: .int a :: st) σ Q = if ¬ a = b then am_Rn L xs d 73 30 ls st σ Q else am_Rn L xs d 73 26 ls st σ Q := (am_r_icmp (t := 30) d73_23 (by decide)).trans (am_ite _ _ trivial (by simp only [am_cond, decide_eq_true_eq]))
theorem r73_26  : am_Rn L xs d 73 26 ls st σ Q = am_Rn L xs d 73 27 ls (.int 1 :: st) σ Q := am_r_iconst d73_26 (by decide)
theorem r73_27  : am_Rn L xs d 73 27 ls st σ Q = am_Rn L xs d 73 31 ls st σ Q := am_r_goto d73_27 (by decide)
theorem r73_30  : am_Rn L xs d 73 30 ls st σ Q = am_Rn L xs d 73 31 ls (.int 0 :: st) σ Q := am_r_iconst d73_30 (by decide)
theorem r73_31 {v : Int32} (hv : v = 0 ∨ v = 1) : am_Rn L xs d 73 31 ls [.int v] σ Q = Q (some (.int v)) σ := am_r_zreturn d73_31 rfl hv
theorem d74_0 : decode (pg_code 74) 0 = .ok (.aload_n 0, 1) := by decide +kernel
theorem d74_1 : decode (pg_code 74) 1 = .ok (.getfield 52, 3) := by decide +kernel
theorem d74_4 : decode (pg_code 74) 4 = .ok (.bipush 12, 2) := by decide +kernel
theorem d74_6 : decode (pg_code 74) 6 = .ok (.if_icmp .ge 23, 3) := by decide +kernel
theorem d74_9 : decode (pg_code 74) 9 = .ok (.aload_n 0, 1) := by decide +kernel
theorem d74_10 : decode (pg_code 74) 10 = .ok (.getfield 44, 3) := by decide +kernel
theorem d74_13 : decode (pg_code 74) 13 = .ok (.aload_n 0, 1) := by decide +kernel
theorem d74_14 : decode (pg_code 74) 14 = .ok (.getfield 52, 3) := by decide +kernel
theorem d74_17 : decode (pg_code 74) 17 = .ok (.iload_n 1, 1) := by decide +kernel
theorem d74_18 : decode (pg_code 74) 18 = .ok (.iastore, 1) := by decide +kernel
theorem d74_19 : decode (pg_code 74) 19 = .ok (.aload_n 0, 1) := by decide +kernel
theorem d74_20 : decode (pg_code 74) 20 = .ok (.dup, 1) := by decide +kernel
theorem d74_21 : decode (pg_code 74) 21 = .ok (.getfield 52, 3) := by decide +kernel
theorem d74_24 : decode (pg_code 74) 24 = .ok (.iconst 1, 1) := by decide +kernel
theorem d74_25 : decode (pg_code 74) 25 = .ok (.iadd, 1) := by decide +kernel
theorem d74_26 : decode (pg_code 74) 26 = .ok (.putfield 52, 3) := by decide +kernel
theorem d74_29 : decode (pg_code 74) 29 = .ok (.return_, 1) := by decide +kernel
theorem e74 {b1 b2 : Value} : am_Call L xs d 74 [b1, b2] σ Q = am_Rn L xs d 74 0 [b1, b2] [] σ Q := rfl
theorem r74_0  : am_Rn L xs d 74 0 ls st σ Q = am_la ls 0 (fun x => am_Rn L xs d 74 1 ls (x :: st) σ Q) := am_r_aload_n d74_0
theorem r74_1 {p : Nat} : am_Rn L xs d 74 1 ls (.ref p :: st) σ Q = am_fd σ p 5 8 (fun v => am_Rn L xs d 74 4 ls (v :: st) σ Q) := am_r_getfield d74_1 rfl
theorem r74_4  : am_Rn L xs d 74 4 ls st σ Q = am_Rn L xs d 74 6 ls (.int 12 :: st) σ Q := am_r_bipush d74_4 (by decide)
theorem r74_6 {a b : Int32} : am_Rn L xs d 74 6 ls (.int b :: .int a :: st) σ Q = if b ≤ a then am_Rn L xs d 74 29 ls st σ Q else am_Rn L xs d 74 9 ls st σ Q := (am_r_icmp (t := 29) d74_6 (by decide)).trans (am_ite _ _ trivial (by simp only [am_cond, decide_eq_true_eq]))
theorem r74_9  : am_Rn L xs d 74 9 ls st σ Q = am_la ls 0 (fun x => am_Rn L xs d 74 10 ls (x :: st) σ Q) := am_r_aload_n d74_9
theorem r74_10 {p : Nat} : am_Rn L xs d 74 10 ls (.ref p :: st) σ Q = am_fd σ p 5 6 (fun v => am_Rn L xs d 74 13 ls (v :: st) σ Q) := am_r_getfield d74_10 rfl
theorem r74_13  : am_Rn L xs d 74 13 ls st σ Q = am_la ls 0 (fun x => am_Rn L xs d 74 14 ls (x :: st) σ Q) := am_r_aload_n d74_13
theorem r74_14 {p : Nat} : am_Rn L xs d 74 14 ls (.ref p :: st) σ Q = am_fd σ p 5 8 (fun v => am_Rn L xs d 74 17 ls (v :: st) σ Q) := am_r_getfield d74_14 rfl
theorem r74_17  : am_Rn L xs d 74 17 ls st σ Q = am_li ls 1 (fun x => am_Rn L xs d 74 18 ls (.int x :: st) σ Q) := am_r_iload_n d74_17
theorem r74_18 {p : Nat} {i x : Int32} : am_Rn L xs d 74 18 ls (.int x :: .int i :: .ref p :: st) σ Q = am_wi 0 σ p i x (fun σ1 => am_Rn L xs d 74 19 ls st σ1 Q) := am_r_iastore d74_18
theorem r74_19  : am_Rn L xs d 74 19 ls st σ Q = am_la ls 0 (fun x => am_Rn L xs d 74 20 ls (x :: st) σ Q) := am_r_aload_n d74_19
theorem r74_20 {a : Value} : am_Rn L xs d 74 20 ls (a :: st) σ Q = (am_ok a = true ∧ am_Rn L xs d 74 21 ls (a :: a :: st) σ Q) := am_r_dup d74_20
theorem r74_21 {p : Nat} : am_Rn L xs d 74 21 ls (.ref p :: st) σ Q = am_fd σ p 5 8 (fun v => am_Rn L xs d 74 24 ls (v :: st) σ Q) := am_r_getfield d74_21 rfl
theorem r74_24  : am_Rn L xs d 74 24 ls st σ Q = am_Rn L xs d 74 25 ls (.int 1 :: st) σ Q := am_r_iconst d74_24 (by decide)
theorem r74_25 {a b : Int32} : am_Rn L xs d 74 25 ls (.int b :: .int a :: st) σ Q = am_Rn L xs d 74 26 ls (.int (a + b) :: st) σ Q := am_r_iadd d74_25
theorem r74_26 {p : Nat} {v : Value} : am_Rn L xs d 74 26 ls (v :: .ref p :: st) σ Q = am_wf 74 5 σ p 5 8 v (fun σ1 => am_Rn L xs d 74 29 ls st σ1 Q) := am_r_putfield d74_26 rfl
theorem r74_29  : am_Rn L xs d 74 29 ls [] σ Q = Q none σ := am_r_return d74_29 rfl
theorem d75_0 : decode (pg_code 75) 0 = .ok (.iload_n 1, 1) := by decide +kernel
theorem d75_1 : decode (pg_code 75) 1 = .ok (.iconst (-1), 1) := by decide +kernel
theorem d75_2 : decode (pg_code 75) 2 = .ok (.if_icmp .eq 14, 3) := by decide +kernel
theorem d75_5 : decode (pg_code 75) 5 = .ok (.aload_n 0, 1) := by decide +kernel
theorem d75_6 : decode (pg_code 75) 6 = .ok (.getfield 14, 3) := by decide +kernel
theorem d75_9 : decode (pg_code 75) 9 = .ok (.iload_n 1, 1) := by decide +kernel
theorem d75_10 : decode (pg_code 75) 10 = .ok (.invokevirtual 120, 3) := by decide +kernel
theorem d75_13 : decode (pg_code 75) 13 = .ok (.ifCond .eq 7, 3) := by decide +kernel
theorem d75_16 : decode (pg_code 75) 16 = .ok (.iconst 1, 1) := by decide +kernel
theorem d75_17 : decode (pg_code 75) 17 = .ok (.goto 4, 3) := by decide +kernel
theorem d75_20 : decode (pg_code 75) 20 = .ok (.iconst 0, 1) := by decide +kernel
theorem d75_21 : decode (pg_code 75) 21 = .ok (.istore_n 3, 1) := by decide +kernel
theorem d75_22 : decode (pg_code 75) 22 = .ok (.iload_n 2, 1) := by decide +kernel
theorem d75_23 : decode (pg_code 75) 23 = .ok (.iconst (-1), 1) := by decide +kernel
theorem d75_24 : decode (pg_code 75) 24 = .ok (.if_icmp .eq 27, 3) := by decide +kernel
theorem d75_27 : decode (pg_code 75) 27 = .ok (.aload_n 0, 1) := by decide +kernel
theorem d75_28 : decode (pg_code 75) 28 = .ok (.getfield 14, 3) := by decide +kernel
theorem d75_31 : decode (pg_code 75) 31 = .ok (.iload_n 2, 1) := by decide +kernel
theorem d75_32 : decode (pg_code 75) 32 = .ok (.invokevirtual 120, 3) := by decide +kernel
theorem d75_35 : decode (pg_code 75) 35 = .ok (.ifCond .eq 20, 3) := by decide +kernel
theorem d75_38 : decode (pg_code 75) 38 = .ok (.aload_n 0, 1) := by decide +kernel
theorem d75_39 : decode (pg_code 75) 39 = .ok (.getfield 14, 3) := by decide +kernel
theorem d75_42 : decode (pg_code 75) 42 = .ok (.getfield 142, 3) := by decide +kernel
theorem d75_45 : decode (pg_code 75) 45 = .ok (.iload_n 2, 1) := by decide +kernel
theorem d75_46 : decode (pg_code 75) 46 = .ok (.iaload, 1) := by decide +kernel
theorem d75_47 : decode (pg_code 75) 47 = .ok (.iload_n 1, 1) := by decide +kernel
theorem d75_48 : decode (pg_code 75) 48 = .ok (.if_icmp .ne 7, 3) := by decide +kernel
theorem d75_51 : decode (pg_code 75) 51 = .ok (.iconst 1, 1) := by decide +kernel
theorem d75_52 : decode (pg_code 75) 52 = .ok (.goto 4, 3) := by decide +kernel
theorem d75_55 : decode (pg_code 75) 55 = .ok (.iconst 0, 1) := by decide +kernel
theorem d75_56 : decode (pg_code 75) 56 = .ok (.istore 4, 2) := by decide +kernel
theorem d75_58 : decode (pg_code 75) 58 = .ok (.iload_n 3, 1) := by decide +kernel
theorem d75_59 : decode (pg_code 75) 59 = .ok (.ifCond .eq 12, 3) := by decide +kernel
theorem d75_62 : decode (pg_code 75) 62 = .ok (.iload 4, 2) := by decide +kernel
theorem d75_64 : decode (pg_code 75) 64 = .ok (.ifCond .eq 7, 3) := by decide +kernel
theorem d75_67 : decode (pg_code 75) 67 = .ok (.iconst 1, 1) := by decide +kernel
theorem d75_68 : decode (pg_code 75) 68 = .ok (.goto 4, 3) := by decide +kernel
theorem d75_71 : decode (pg_code 75) 71 = .ok (.iconst 0, 1) := by decide +kernel
theorem d75_72 : decode (pg_code 75) 72 = .ok (.ireturn, 1) := by decide +kernel
theorem e75 {b1 b2 b3 : Value} : am_Call L xs d 75 [b1, b2, b3] σ Q = am_Rn L xs d 75 0 [b1, b2, b3, .retAddr 0, .retAddr 0] [] σ Q := rfl
theorem r75_0  : am_Rn L xs d 75 0 ls st σ Q = am_li ls 1 (fun x => am_Rn L xs d 75 1 ls (.int x :: st) σ Q) := am_r_iload_n d75_0
theorem r75_1  : am_Rn L xs d 75 1 ls st σ Q = am_Rn L xs d 75 2 ls (.int (-1) :: st) σ Q := am_r_iconst d75_1 (by decide)
theorem r75_2 {a b : Int32} : am_Rn L xs d 75 2 ls (.int b :: .int a :: st) σ Q = if a = b then am_Rn L xs d 75 16 ls st σ Q else am_Rn L xs d 75 5 ls st σ Q := (am_r_icmp (t := 16) d75_2 (by decide)).trans (am_ite _ _ trivial (by simp only [am_cond, decide_eq_true_eq]))
theorem r75_5  : am_Rn L xs d 75 5 ls st σ Q = am_la ls 0 (fun x => am_Rn L xs d 75 6 ls (x :: st) σ Q) := am_r_aload_n d75_5
theorem r75_6 {p : Nat} : am_Rn L xs d 75 6 ls (.ref p :: st) σ Q = am_fd σ p 5 0 (fun v => am_Rn L xs d 75 9 ls (v :: st) σ Q) := am_r_getfield d75_6 rfl
theorem r75_9  : am_Rn L xs d 75 9 ls st σ Q = am_li ls 1 (fun x => am_Rn L xs d 75 10 ls (.int x :: st) σ Q) := am_r_iload_n d75_9
theorem r75_10 {a1 : Value} {p : Nat} : am_Rn L xs (d + 1) 75 10 ls (a1 :: .ref p :: st) σ Q = ((am_oc σ p = 1 ∧ st.length ≤ 4 ∧ am_ok a1 = true) ∧ am_Call L xs d 9 [.ref p, a1] σ (fun r σ1 => am_Rn L xs (d + 1) 75 13 ls (r.toList ++ st) σ1 Q)) := am_R_virtual1 d75_10 rfl ⟨by decide, rfl⟩ rfl rfl (by decide)
theorem r75_13 {a : Int32} : am_Rn L xs d 75 13 ls (.int a :: st) σ Q = if a = 0 then am_Rn L xs d 75 20 ls st σ Q else am_Rn L xs d 75 16 ls st σ Q := (am_r_if (t := 20) d75_13 (by decide)).trans (am_ite _ _ trivial (by simp only [am_cond, decide_eq_true_eq]))
theorem r75_16  : am_Rn L xs d 75 16 ls st σ Q = am_Rn L xs d 75 17 ls (.int 1 :: st) σ Q := am_r_iconst d75_16 (by decide)
theorem r75_17  : am_Rn L xs d 75 17 ls st σ Q = am_Rn L xs d 75 21 ls st σ Q := am_r_goto d75_17 (by decide)
theorem r75_20  : am_Rn L xs d 75 20 ls st σ Q = am_Rn L xs d 75 21 ls (.int 0 :: st) σ Q := am_r_iconst d75_20 (by decide)
theorem r75_21 {x : Int32} : am_Rn L xs d 75 21 ls (.int x :: st) σ Q = (3 < ls.length ∧ am_Rn L xs d 75 22 (ls.set 3 (.int x)) st σ Q) := am_r_istore_n d75_21
theorem r75_22  : am_Rn L xs d 75 22 ls st σ Q = am_li ls 2 (fun x => am_Rn L xs d 75 23 ls (.int x :: st) σ Q) := am_r_iload_n d75_22
theorem r75_23  : am_Rn L xs d 75 23 ls st σ Q = am_Rn L xs d 75 24 ls (.int (-1) :: st) σ Q := am_r_iconst d75_23 (by decide)
theorem r75_24 {a b : Int32} : am_Rn L xs d 75 24 ls (.int b :: .int a :: st) σ Q = if a = b then am_Rn L xs d 75 51 ls st σ Q else am_Rn L xs d 75 27 ls st σ Q := (am_r_icmp (t := 51) d75_24 (by decide)).trans (am_ite _ _ trivial (by simp only [am_cond, decide_eq_true_eq]))
theorem r75_27  : am_Rn L xs d 75 27 ls st σ Q = am_la ls 0 (fun x => am_Rn L xs d 75 28 ls (x :: st) σ Q) := am_r_aload_n d75_27
theorem r75_28 {p : Nat} : am_Rn L xs d 75 28 ls (.ref p :: st) σ Q = am_fd σ p 5 0 (fun v => am_Rn L xs d 75 31 ls (v :: st) σ Q) := am_r_getfield d75_28 rfl
theorem r75_31  : am_Rn L xs d 75 31 ls st σ Q = am_li ls 2 (fun x => am_Rn L xs d 75 32 ls (.int x :: st) σ Q) := am_r_iload_n d75_31
theorem r75_32 {a1 : Value} {p : Nat} : am_Rn L xs (d + 1) 75 32 ls (a1 :: .ref p :: st) σ Q = ((am_oc σ p = 1 ∧ st.length ≤ 4 ∧ am_ok a1 = true) ∧ am_Call L xs d 9 [.ref p, a1] σ (fun r σ1 => am_Rn L xs (d + 1) 75 35 ls (r.toList ++ st) σ1 Q)) := am_R_virtual1 d75_32 rfl ⟨by decide, rfl⟩ rfl rfl (by decide)
theorem r75_35 {a : Int32} : am_Rn L xs d 75 35 ls (.int a :: st) σ Q = if a = 0 then am_Rn L xs d 75 55 ls st σ Q else am_Rn L xs d 75 38 ls st σ Q := (am_r_if (t := 55) d75_35 (by decide)).trans (am_ite _ _ trivial (by simp only [am_cond, decide_eq_true_eq]))
theorem r75_38  : am_Rn L xs d 75 38 ls st σ Q = am_la ls 0 (fun x => am_Rn L xs d 75 39 ls (x :: st) σ Q) := am_r_aload_n d75_38
theorem r75_39 {p : Nat} : am_Rn L xs d 75 39 ls (.ref p :: st) σ Q = am_fd σ p 5 0 (fun v => am_Rn L xs d 75 42 ls (v :: st) σ Q) := am_r_getfield d75_39 rfl
theorem r75_42 {p : Nat} : am_Rn L xs d 75 42 ls (.ref p :: st) σ Q = am_fd σ p 1 0 (fun v => am_Rn L xs d 75 45 ls (v :: st) σ Q) := am_r_getfield d75_42 rfl
theorem r75_45  : am_Rn L xs d 75 45 ls st σ Q = am_li ls 2 (fun x => am_Rn L xs d 75 46 ls (.int x :: st) σ Q) := am_r_iload_n d75_45
theorem r75_46 {p : Nat} {i : Int32} : am_Rn L xs d 75 46 ls (.int i :: .ref p :: st) σ Q = am_ai 0 σ p i (fun x => am_Rn L xs d 75 47 ls (.int x :: st) σ Q) := am_r_iaload d75_46
theorem r75_47  : am_Rn L xs d 75 47 ls st σ Q = am_li ls 1 (fun x => am_Rn L xs d 75 48 ls (.int x :: st) σ Q) := am_r_iload_n d75_47
theorem r75_48 {a b : Int32} : am_Rn L xs d 75 48 ls (.int b :: .int a :: st) σ Q = if ¬ a = b then am_Rn L xs d 75 55 ls st σ Q else am_Rn L xs d 75 51 ls st σ Q := (am_r_icmp (t := 55) d75_48 (by decide)).trans (am_ite _ _ trivial (by simp only [am_cond, decide_eq_true_eq]))
theorem r75_51  : am_Rn L xs d 75 51 ls st σ Q = am_Rn L xs d 75 52 ls (.int 1 :: st) σ Q := am_r_iconst d75_51 (by decide)
theorem r75_52  : am_Rn L xs d 75 52 ls st σ Q = am_Rn L xs d 75 56 ls st σ Q := am_r_goto d75_52 (by decide)
theorem r75_55  : am_Rn L xs d 75 55 ls st σ Q = am_Rn L xs d 75 56 ls (.int 0 :: st) σ Q := am_r_iconst d75_55 (by decide)
theorem r75_56 {x : Int32} : am_Rn L xs d 75 56 ls (.int x :: st) σ Q = (4 < ls.length ∧ am_Rn L xs d 75 58 (ls.set 4 (.int x)) st σ Q) := am_r_istore d75_56
theorem r75_58  : am_Rn L xs d 75 58 ls st σ Q = am_li ls 3 (fun x => am_Rn L xs d 75 59 ls (.int x :: st) σ Q) := am_r_iload_n d75_58
theorem r75_59 {a : Int32} : am_Rn L xs d 75 59 ls (.int a :: st) σ Q = if a = 0 then am_Rn L xs d 75 71 ls st σ Q else am_Rn L xs d 75 62 ls st σ Q := (am_r_if (t := 71) d75_59 (by decide)).trans (am_ite _ _ trivial (by simp only [am_cond, decide_eq_true_eq]))
theorem r75_62  : am_Rn L xs d 75 62 ls st σ Q = am_li ls 4 (fun x => am_Rn L xs d 75 64 ls (.int x :: st) σ Q) := am_r_iload d75_62
theorem r75_64 {a : Int32} : am_Rn L xs d 75 64 ls (.int a :: st) σ Q = if a = 0 then am_Rn L xs d 75 71 ls st σ Q else am_Rn L xs d 75 67 ls st σ Q := (am_r_if (t := 71) d75_64 (by decide)).trans (am_ite _ _ trivial (by simp only [am_cond, decide_eq_true_eq]))
theorem r75_67  : am_Rn L xs d 75 67 ls st σ Q = am_Rn L xs d 75 68 ls (.int 1 :: st) σ Q := am_r_iconst d75_67 (by decide)
theorem r75_68  : am_Rn L xs d 75 68 ls st σ Q = am_Rn L xs d 75 72 ls st σ Q := am_r_goto d75_68 (by decide)
theorem r75_71  : am_Rn L xs d 75 71 ls st σ Q = am_Rn L xs d 75 72 ls (.int 0 :: st) σ Q := am_r_iconst d75_71 (by decide)
theorem r75_72 {v : Int32} (hv : v = 0 ∨ v = 1) : am_Rn L xs d 75 72 ls [.int v] σ Q = Q (some (.int v)) σ := am_r_zreturn d75_72 rfl hv
theorem d76_0 : decode (pg_code 76) 0 = .ok (.aload_n 0, 1) := by decide +kernel
theorem d76_1 : decode (pg_code 76) 1 = .ok (.getfield 37, 3) := by decide +kernel
theorem d76_4 : decode (pg_code 76) 4 = .ok (.iload_n 1, 1) := by decide +kernel
theorem d76_5 : decode (pg_code 76) 5 = .ok (.iconst 1, 1) := by decide +kernel
theorem d76_6 : decode (pg_code 76) 6 = .ok (.invokevirtual 79, 3) := by decide +kernel
theorem d76_9 : decode (pg_code 76) 9 = .ok (.istore_n 2, 1) := by decide +kernel
theorem d76_10 : decode (pg_code 76) 10 = .ok (.aload_n 0, 1) := by decide +kernel
theorem d76_11 : decode (pg_code 76) 11 = .ok (.getfield 37, 3) := by decide +kernel
theorem d76_14 : decode (pg_code 76) 14 = .ok (.iload_n 1, 1) := by decide +kernel
theorem d76_15 : decode (pg_code 76) 15 = .ok (.iconst 5, 1) := by decide +kernel
theorem d76_16 : decode (pg_code 76) 16 = .ok (.invokevirtual 79, 3) := by decide +kernel
theorem d76_19 : decode (pg_code 76) 19 = .ok (.istore_n 3, 1) := by decide +kernel
theorem d76_20 : decode (pg_code 76) 20 = .ok (.aload_n 0, 1) := by decide +kernel
theorem d76_21 : decode (pg_code 76) 21 = .ok (.getfield 14, 3) := by decide +kernel
theorem d76_24 : decode (pg_code 76) 24 = .ok (.iload_n 2, 1) := by decide +kernel
theorem d76_25 : decode (pg_code 76) 25 = .ok (.invokevirtual 120, 3) := by decide +kernel
theorem d76_28 : decode (pg_code 76) 28 = .ok (.ifCond .ne 5, 3) := by decide +kernel
theorem d76_31 : decode (pg_code 76) 31 = .ok (.iconst 0, 1) := by decide +kernel
theorem d76_32 : decode (pg_code 76) 32 = .ok (.ireturn, 1) := by decide +kernel
theorem d76_33 : decode (pg_code 76) 33 = .ok (.aload_n 0, 1) := by decide +kernel
theorem d76_34 : decode (pg_code 76) 34 = .ok (.getfield 34, 3) := by decide +kernel
theorem d76_37 : decode (pg_code 76) 37 = .ok (.iconst 1, 1) := by decide +kernel
theorem d76_38 : decode (pg_code 76) 38 = .ok (.iload_n 2, 1) := by decide +kernel
theorem d76_39 : decode (pg_code 76) 39 = .ok (.invokevirtual 123, 3) := by decide +kernel
theorem d76_42 : decode (pg_code 76) 42 = .ok (.istore 4, 2) := by decide +kernel
theorem d76_44 : decode (pg_code 76) 44 = .ok (.iload 4, 2) := by decide +kernel
theorem d76_46 : decode (pg_code 76) 46 = .ok (.iconst (-1), 1) := by decide +kernel
theorem d76_47 : decode (pg_code 76) 47 = .ok (.if_icmp .eq 23, 3) := by decide +kernel
theorem d76_50 : decode (pg_code 76) 50 = .ok (.aload_n 0, 1) := by decide +kernel
theorem d76_51 : decode (pg_code 76) 51 = .ok (.getfield 34, 3) := by decide +kernel
theorem d76_54 : decode (pg_code 76) 54 = .ok (.iload 4, 2) := by decide +kernel
theorem d76_56 : decode (pg_code 76) 56 = .ok (.iconst 5, 1) := by decide +kernel
theorem d76_57 : decode (pg_code 76) 57 = .ok (.invokevirtual 79, 3) := by decide +kernel
theorem d76_60 : decode (pg_code 76) 60 = .ok (.iload_n 3, 1) := by decide +kernel
theorem d76_61 : decode (pg_code 76) 61 = .ok (.if_icmp .ne 7, 3) := by decide +kernel
theorem d76_64 : decode (pg_code 76) 64 = .ok (.iconst 1, 1) := by decide +kernel
theorem d76_65 : decode (pg_code 76) 65 = .ok (.goto 4, 3) := by decide +kernel
theorem d76_68 : decode (pg_code 76) 68 = .ok (.iconst 0, 1) := by decide +kernel
theorem d76_69 : decode (pg_code 76) 69 = .ok (.ireturn, 1) := by decide +kernel
theorem d76_70 : decode (pg_code 76) 70 = .ok (.aload_n 0, 1) := by decide +kernel
theorem d76_71 : decode (pg_code 76) 71 = .ok (.getfield 14, 3) := by decide +kernel
theorem d76_74 : decode (pg_code 76) 74 = .ok (.iload_n 2, 1) := by decide +kernel
theorem d76_75 : decode (pg_code 76) 75 = .ok (.iload_n 3, 1) := by decide +kernel
theorem d76_76 : decode (pg_code 76) 76 = .ok (.invokevirtual 125, 3) := by decide +kernel
theorem d76_79 : decode (pg_code 76) 79 = .ok (.iconst 1, 1) := by decide +kernel
theorem d76_80 : decode (pg_code 76) 80 = .ok (.ireturn, 1) := by decide +kernel
theorem e76 {b1 b2 : Value} : am_Call L xs d 76 [b1, b2] σ Q = am_Rn L xs d 76 0 [b1, b2, .retAddr 0, .retAddr 0, .retAddr 0] [] σ Q := rfl
theorem r76_0  : am_Rn L xs d 76 0 ls st σ Q = am_la ls 0 (fun x => am_Rn L xs d 76 1 ls (x :: st) σ Q) := am_r_aload_n d76_0
theorem r76_1 {p : Nat} : am_Rn L xs d 76 1 ls (.ref p :: st) σ Q = am_fd σ p 5 4 (fun v => am_Rn L xs d 76 4 ls (v :: st) σ Q) := am_r_getfield d76_1 rfl
theorem r76_4  : am_Rn L xs d 76 4 ls st σ Q = am_li ls 1 (fun x => am_Rn L xs d 76 5 ls (.int x :: st) σ Q) := am_r_iload_n d76_4
theorem r76_5  : am_Rn L xs d 76 5 ls st σ Q = am_Rn L xs d 76 6 ls (.int 1 :: st) σ Q := am_r_iconst d76_5 (by decide)
theorem r76_6 {a1 a2 : Value} {p : Nat} : am_Rn L xs (d + 1) 76 6 ls (a2 :: a1 :: .ref p :: st) σ Q = ((am_oc σ p = 2 ∧ st.length ≤ 4 ∧ am_ok a1 = true ∧ am_ok a2 = true) ∧ am_Call L xs d 58 [.ref p, a1, a2] σ (fun r σ1 => am_Rn L xs (d + 1) 76 9 ls (r.toList ++ st) σ1 Q)) := am_R_virtual2 d76_6 rfl ⟨by decide, rfl⟩ rfl rfl (by decide)
theorem r76_9 {x : Int32} : am_Rn L xs d 76 9 ls (.int x :: st) σ Q = (2 < ls.length ∧ am_Rn L xs d 76 10 (ls.set 2 (.int x)) st σ Q) := am_r_istore_n d76_9
theorem r76_10  : am_Rn L xs d 76 10 ls st σ Q = am_la ls 0 (fun x => am_Rn L xs d 76 11 ls (x :: st) σ Q) := am_r_aload_n d76_10
theorem r76_11 {p : Nat} : am_Rn L xs d 76 11 ls (.ref p :: st) σ Q = am_fd σ p 5 4 (fun v => am_Rn L xs d 76 14 ls (v :: st) σ Q) := am_r_getfield d76_11 rfl
theorem r76_14  : am_Rn L xs d 76 14 ls st σ Q = am_li ls 1 (fun x => am_Rn L xs d 76 15 ls (.int x :: st) σ Q) := am_r_iload_n d76_14
theorem r76_15  : am_Rn L xs d 76 15 ls st σ Q = am_Rn L xs d 76 16 ls (.int 5 :: st) σ Q := am_r_iconst d76_15 (by decide)
theorem r76_16 {a1 a2 : Value} {p : Nat} : am_Rn L xs (d + 1) 76 16 ls (a2 :: a1 :: .ref p :: st) σ Q = ((am_oc σ p = 2 ∧ st.length ≤ 4 ∧ am_ok a1 = true ∧ am_ok a2 = true) ∧ am_Call L xs d 58 [.ref p, a1, a2] σ (fun r σ1 => am_Rn L xs (d + 1) 76 19 ls (r.toList ++ st) σ1 Q)) := am_R_virtual2 d76_16 rfl ⟨by decide, rfl⟩ rfl rfl (by decide)
theorem r76_19 {x : Int32} : am_Rn L xs d 76 19 ls (.int x :: st) σ Q = (3 < ls.length ∧ am_Rn L xs d 76 20 (ls.set 3 (.int x)) st σ Q) := am_r_istore_n d76_19
theorem r76_20  : am_Rn L xs d 76 20 ls st σ Q = am_la ls 0 (fun x => am_Rn L xs d 76 21 ls (x :: st) σ Q) := am_r_aload_n d76_20
theorem r76_21 {p : Nat} : am_Rn L xs d 76 21 ls (.ref p :: st) σ Q = am_fd σ p 5 0 (fun v => am_Rn L xs d 76 24 ls (v :: st) σ Q) := am_r_getfield d76_21 rfl
theorem r76_24  : am_Rn L xs d 76 24 ls st σ Q = am_li ls 2 (fun x => am_Rn L xs d 76 25 ls (.int x :: st) σ Q) := am_r_iload_n d76_24
theorem r76_25 {a1 : Value} {p : Nat} : am_Rn L xs (d + 1) 76 25 ls (a1 :: .ref p :: st) σ Q = ((am_oc σ p = 1 ∧ st.length ≤ 4 ∧ am_ok a1 = true) ∧ am_Call L xs d 9 [.ref p, a1] σ (fun r σ1 => am_Rn L xs (d + 1) 76 28 ls (r.toList ++ st) σ1 Q)) := am_R_virtual1 d76_25 rfl ⟨by decide, rfl⟩ rfl rfl (by decide)
theorem r76_28 {a : Int32} : am_Rn L xs d 76 28 ls (.int a :: st) σ Q = if ¬ a = 0 then am_Rn L xs d 76 33 ls st σ Q else am_Rn L xs d 76 31 ls st σ Q := (am_r_if (t := 33) d76_28 (by decide)).trans (am_ite _ _ trivial (by simp only [am_cond, decide_eq_true_eq]))
theorem r76_31  : am_Rn L xs d 76 31 ls st σ Q = am_Rn L xs d 76 32 ls (.int 0 :: st) σ Q := am_r_iconst d76_31 (by decide)
theorem r76_32 {v : Int32} (hv : v = 0 ∨ v = 1) : am_Rn L xs d 76 32 ls [.int v] σ Q = Q (some (.int v)) σ := am_r_zreturn d76_32 rfl hv
theorem r76_33  : am_Rn L xs d 76 33 ls st σ Q = am_la ls 0 (fun x => am_Rn L xs d 76 34 ls (x :: st) σ Q) := am_r_aload_n d76_33
theorem r76_34 {p : Nat} : am_Rn L xs d 76 34 ls (.ref p :: st) σ Q = am_fd σ p 5 3 (fun v => am_Rn L xs d 76 37 ls (v :: st) σ Q) := am_r_getfield d76_34 rfl
theorem r76_37  : am_Rn L xs d 76 37 ls st σ Q = am_Rn L xs d 76 38 ls (.int 1 :: st) σ Q := am_r_iconst d76_37 (by decide)
theorem r76_38  : am_Rn L xs d 76 38 ls st σ Q = am_li ls 2 (fun x => am_Rn L xs d 76 39 ls (.int x :: st) σ Q) := am_r_iload_n d76_38
theorem r76_39 {a1 a2 : Value} {p : Nat} : am_Rn L xs (d + 1) 76 39 ls (a2 :: a1 :: .ref p :: st) σ Q = ((am_oc σ p = 2 ∧ st.length ≤ 4 ∧ am_ok a1 = true ∧ am_ok a2 = true) ∧ am_Call L xs d 77 [.ref p, a1, a2] σ (fun r σ1 => am_Rn L xs (d + 1) 76 42 ls (r.toList ++ st) σ1 Q)) := am_R_virtual2 d76_39 rfl ⟨by decide, rfl⟩ rfl rfl (by decide)
theorem r76_42 {x : Int32} : am_Rn L xs d 76 42 ls (.int x :: st) σ Q = (4 < ls.length ∧ am_Rn L xs d 76 44 (ls.set 4 (.int x)) st σ Q) := am_r_istore d76_42
theorem r76_44  : am_Rn L xs d 76 44 ls st σ Q = am_li ls 4 (fun x => am_Rn L xs d 76 46 ls (.int x :: st) σ Q) := am_r_iload d76_44
theorem r76_46  : am_Rn L xs d 76 46 ls st σ Q = am_Rn L xs d 76 47 ls (.int (-1) :: st) σ Q := am_r_iconst d76_46 (by decide)
theorem r76_47 {a b : Int32} : am_Rn L xs d 76 47 ls (.int b :: .int a :: st) σ Q = if a = b then am_Rn L xs d 76 70 ls st σ Q else am_Rn L xs d 76 50 ls st σ Q := (am_r_icmp (t := 70) d76_47 (by decide)).trans (am_ite _ _ trivial (by simp only [am_cond, decide_eq_true_eq]))
theorem r76_50  : am_Rn L xs d 76 50 ls st σ Q = am_la ls 0 (fun x => am_Rn L xs d 76 51 ls (x :: st) σ Q) := am_r_aload_n d76_50
theorem r76_51 {p : Nat} : am_Rn L xs d 76 51 ls (.ref p :: st) σ Q = am_fd σ p 5 3 (fun v => am_Rn L xs d 76 54 ls (v :: st) σ Q) := am_r_getfield d76_51 rfl
theorem r76_54  : am_Rn L xs d 76 54 ls st σ Q = am_li ls 4 (fun x => am_Rn L xs d 76 56 ls (.int x :: st) σ Q) := am_r_iload d76_54
theorem r76_56  : am_Rn L xs d 76 56 ls st σ Q = am_Rn L xs d 76 57 ls (.int 5 :: st) σ Q := am_r_iconst d76_56 (by decide)
theorem r76_57 {a1 a2 : Value} {p : Nat} : am_Rn L xs (d + 1) 76 57 ls (a2 :: a1 :: .ref p :: st) σ Q = ((am_oc σ p = 2 ∧ st.length ≤ 4 ∧ am_ok a1 = true ∧ am_ok a2 = true) ∧ am_Call L xs d 58 [.ref p, a1, a2] σ (fun r σ1 => am_Rn L xs (d + 1) 76 60 ls (r.toList ++ st) σ1 Q)) := am_R_virtual2 d76_57 rfl ⟨by decide, rfl⟩ rfl rfl (by decide)
theorem r76_60  : am_Rn L xs d 76 60 ls st σ Q = am_li ls 3 (fun x => am_Rn L xs d 76 61 ls (.int x :: st) σ Q) := am_r_iload_n d76_60
theorem r76_61 {a b : Int32} : am_Rn L xs d 76 61 ls (.int b :: .int a :: st) σ Q = if ¬ a = b then am_Rn L xs d 76 68 ls st σ Q else am_Rn L xs d 76 64 ls st σ Q := (am_r_icmp (t := 68) d76_61 (by decide)).trans (am_ite _ _ trivial (by simp only [am_cond, decide_eq_true_eq]))
theorem r76_64  : am_Rn L xs d 76 64 ls st σ Q = am_Rn L xs d 76 65 ls (.int 1 :: st) σ Q := am_r_iconst d76_64 (by decide)
theorem r76_65  : am_Rn L xs d 76 65 ls st σ Q = am_Rn L xs d 76 69 ls st σ Q := am_r_goto d76_65 (by decide)
theorem r76_68  : am_Rn L xs d 76 68 ls st σ Q = am_Rn L xs d 76 69 ls (.int 0 :: st) σ Q := am_r_iconst d76_68 (by decide)
theorem r76_69 {v : Int32} (hv : v = 0 ∨ v = 1) : am_Rn L xs d 76 69 ls [.int v] σ Q = Q (some (.int v)) σ := am_r_zreturn d76_69 rfl hv
theorem r76_70  : am_Rn L xs d 76 70 ls st σ Q = am_la ls 0 (fun x => am_Rn L xs d 76 71 ls (x :: st) σ Q) := am_r_aload_n d76_70
theorem r76_71 {p : Nat} : am_Rn L xs d 76 71 ls (.ref p :: st) σ Q = am_fd σ p 5 0 (fun v => am_Rn L xs d 76 74 ls (v :: st) σ Q) := am_r_getfield d76_71 rfl
theorem r76_74  : am_Rn L xs d 76 74 ls st σ Q = am_li ls 2 (fun x => am_Rn L xs d 76 75 ls (.int x :: st) σ Q) := am_r_iload_n d76_74
theorem r76_75  : am_Rn L xs d 76 75 ls st σ Q = am_li ls 3 (fun x => am_Rn L xs d 76 76 ls (.int x :: st) σ Q) := am_r_iload_n d76_75
theorem r76_76 {a1 a2 : Value} {p : Nat} : am_Rn L xs (d + 1) 76 76 ls (a2 :: a1 :: .ref p :: st) σ Q = ((am_oc σ p = 1 ∧ st.length ≤ 4 ∧ am_ok a1 = true ∧ am_ok a2 = true) ∧ am_Call L xs d 64 [.ref p, a1, a2] σ (fun r σ1 => am_Rn L xs (d + 1) 76 79 ls (r.toList ++ st) σ1 Q)) := am_R_virtual2 d76_76 rfl ⟨by decide, rfl⟩ rfl rfl (by decide)
theorem r76_79  : am_Rn L xs d 76 79 ls st σ Q = am_Rn L xs d 76 80 ls (.int 1 :: st) σ Q := am_r_iconst d76_79 (by decide)
theorem r76_80 {v : Int32} (hv : v = 0 ∨ v = 1) : am_Rn L xs d 76 80 ls [.int v] σ Q = Q (some (.int v)) σ := am_r_zreturn d76_80 rfl hv
theorem d78_0 : decode (pg_code 78) 0 = .ok (.aload_n 0, 1) := by decide +kernel
theorem d78_1 : decode (pg_code 78) 1 = .ok (.getfield 37, 3) := by decide +kernel
theorem d78_4 : decode (pg_code 78) 4 = .ok (.iload_n 1, 1) := by decide +kernel
theorem d78_5 : decode (pg_code 78) 5 = .ok (.iconst 1, 1) := by decide +kernel
theorem d78_6 : decode (pg_code 78) 6 = .ok (.invokevirtual 79, 3) := by decide +kernel
theorem d78_9 : decode (pg_code 78) 9 = .ok (.istore_n 2, 1) := by decide +kernel
theorem d78_10 : decode (pg_code 78) 10 = .ok (.aload_n 0, 1) := by decide +kernel
theorem d78_11 : decode (pg_code 78) 11 = .ok (.aload_n 0, 1) := by decide +kernel
theorem d78_12 : decode (pg_code 78) 12 = .ok (.getfield 37, 3) := by decide +kernel
theorem d78_15 : decode (pg_code 78) 15 = .ok (.iload_n 1, 1) := by decide +kernel
theorem d78_16 : decode (pg_code 78) 16 = .ok (.iconst 2, 1) := by decide +kernel
theorem d78_17 : decode (pg_code 78) 17 = .ok (.invokevirtual 79, 3) := by decide +kernel
theorem d78_20 : decode (pg_code 78) 20 = .ok (.invokevirtual 95, 3) := by decide +kernel
theorem d78_23 : decode (pg_code 78) 23 = .ok (.istore_n 3, 1) := by decide +kernel
theorem d78_24 : decode (pg_code 78) 24 = .ok (.aload_n 0, 1) := by decide +kernel
theorem d78_25 : decode (pg_code 78) 25 = .ok (.aload_n 0, 1) := by decide +kernel
theorem d78_26 : decode (pg_code 78) 26 = .ok (.getfield 37, 3) := by decide +kernel
theorem d78_29 : decode (pg_code 78) 29 = .ok (.iload_n 1, 1) := by decide +kernel
theorem d78_30 : decode (pg_code 78) 30 = .ok (.iconst 3, 1) := by decide +kernel
theorem d78_31 : decode (pg_code 78) 31 = .ok (.invokevirtual 79, 3) := by decide +kernel
theorem d78_34 : decode (pg_code 78) 34 = .ok (.invokevirtual 95, 3) := by decide +kernel
theorem d78_37 : decode (pg_code 78) 37 = .ok (.istore 4, 2) := by decide +kernel
theorem d78_39 : decode (pg_code 78) 39 = .ok (.aload_n 0, 1) := by decide +kernel
theorem d78_40 : decode (pg_code 78) 40 = .ok (.getfield 14, 3) := by decide +kernel
theorem d78_43 : decode (pg_code 78) 43 = .ok (.iload_n 2, 1) := by decide +kernel
theorem d78_44 : decode (pg_code 78) 44 = .ok (.invokevirtual 120, 3) := by decide +kernel
theorem d78_47 : decode (pg_code 78) 47 = .ok (.ifCond .ne 5, 3) := by decide +kernel
theorem d78_50 : decode (pg_code 78) 50 = .ok (.iconst 0, 1) := by decide +kernel
theorem d78_51 : decode (pg_code 78) 51 = .ok (.ireturn, 1) := by decide +kernel
theorem d78_52 : decode (pg_code 78) 52 = .ok (.aload_n 0, 1) := by decide +kernel
theorem d78_53 : decode (pg_code 78) 53 = .ok (.getfield 34, 3) := by decide +kernel
theorem d78_56 : decode (pg_code 78) 56 = .ok (.iconst 2, 1) := by decide +kernel
theorem d78_57 : decode (pg_code 78) 57 = .ok (.iload_n 2, 1) := by decide +kernel
theorem d78_58 : decode (pg_code 78) 58 = .ok (.invokevirtual 123, 3) := by decide +kernel
theorem d78_61 : decode (pg_code 78) 61 = .ok (.istore 5, 2) := by decide +kernel
theorem d78_63 : decode (pg_code 78) 63 = .ok (.iload 5, 2) := by decide +kernel
theorem d78_65 : decode (pg_code 78) 65 = .ok (.iconst (-1), 1) := by decide +kernel
theorem d78_66 : decode (pg_code 78) 66 = .ok (.if_icmp .eq 13, 3) := by decide +kernel
theorem d78_69 : decode (pg_code 78) 69 = .ok (.aload_n 0, 1) := by decide +kernel
theorem d78_70 : decode (pg_code 78) 70 = .ok (.iload 5, 2) := by decide +kernel
theorem d78_72 : decode (pg_code 78) 72 = .ok (.iload_n 3, 1) := by decide +kernel
theorem d78_73 : decode (pg_code 78) 73 = .ok (.iload 4, 2) := by decide +kernel
theorem d78_75 : decode (pg_code 78) 75 = .ok (.invokevirtual 129, 3) := by decide +kernel
theorem d78_78 : decode (pg_code 78) 78 = .ok (.ireturn, 1) := by decide +kernel
theorem d78_79 : decode (pg_code 78) 79 = .ok (.aload_n 0, 1) := by decide +kernel
theorem d78_80 : decode (pg_code 78) 80 = .ok (.iload_n 3, 1) := by decide +kernel
theorem d78_81 : decode (pg_code 78) 81 = .ok (.iload 4, 2) := by decide +kernel
theorem d78_83 : decode (pg_code 78) 83 = .ok (.invokevirtual 109, 3) := by decide +kernel
theorem d78_86 : decode (pg_code 78) 86 = .ok (.ifCond .eq 15, 3) := by decide +kernel
theorem d78_89 : decode (pg_code 78) 89 = .ok (.aload_n 0, 1) := by decide +kernel
theorem d78_90 : decode (pg_code 78) 90 = .ok (.getfield 14, 3) := by decide +kernel
theorem d78_93 : decode (pg_code 78) 93 = .ok (.iload_n 3, 1) := by decide +kernel
theorem d78_94 : decode (pg_code 78) 94 = .ok (.iload_n 2, 1) := by decide +kernel
theorem d78_95 : decode (pg_code 78) 95 = .ok (.invokevirtual 133, 3) := by decide +kernel
theorem d78_98 : decode (pg_code 78) 98 = .ok (.ifCond .eq 5, 3) := by decide +kernel
theorem d78_101 : decode (pg_code 78) 101 = .ok (.iconst 0, 1) := by decide +kernel
theorem d78_102 : decode (pg_code 78) 102 = .ok (.ireturn, 1) := by decide +kernel
theorem d78_103 : decode (pg_code 78) 103 = .ok (.aload_n 0, 1) := by decide +kernel
theorem d78_104 : decode (pg_code 78) 104 = .ok (.getfield 14, 3) := by decide +kernel
theorem d78_107 : decode (pg_code 78) 107 = .ok (.iload_n 2, 1) := by decide +kernel
theorem d78_108 : decode (pg_code 78) 108 = .ok (.invokevirtual 136, 3) := by decide +kernel
theorem d78_111 : decode (pg_code 78) 111 = .ok (.aload_n 0, 1) := by decide +kernel
theorem d78_112 : decode (pg_code 78) 112 = .ok (.getfield 14, 3) := by decide +kernel
theorem d78_115 : decode (pg_code 78) 115 = .ok (.iload_n 2, 1) := by decide +kernel
theorem d78_116 : decode (pg_code 78) 116 = .ok (.iload_n 3, 1) := by decide +kernel
theorem d78_117 : decode (pg_code 78) 117 = .ok (.iload 4, 2) := by decide +kernel
theorem d78_119 : decode (pg_code 78) 119 = .ok (.invokevirtual 117, 3) := by decide +kernel
theorem d78_122 : decode (pg_code 78) 122 = .ok (.iconst 1, 1) := by decide +kernel
theorem d78_123 : decode (pg_code 78) 123 = .ok (.ireturn, 1) := by decide +kernel
theorem e78 {b1 b2 : Value} : am_Call L xs d 78 [b1, b2] σ Q = am_Rn L xs d 78 0 [b1, b2, .retAddr 0, .retAddr 0, .retAddr 0, .retAddr 0] [] σ Q := rfl
theorem r78_0  : am_Rn L xs d 78 0 ls st σ Q = am_la ls 0 (fun x => am_Rn L xs d 78 1 ls (x :: st) σ Q) := am_r_aload_n d78_0
theorem r78_1 {p : Nat} : am_Rn L xs d 78 1 ls (.ref p :: st) σ Q = am_fd σ p 5 4 (fun v => am_Rn L xs d 78 4 ls (v :: st) σ Q) := am_r_getfield d78_1 rfl
theorem r78_4  : am_Rn L xs d 78 4 ls st σ Q = am_li ls 1 (fun x => am_Rn L xs d 78 5 ls (.int x :: st) σ Q) := am_r_iload_n d78_4
theorem r78_5  : am_Rn L xs d 78 5 ls st σ Q = am_Rn L xs d 78 6 ls (.int 1 :: st) σ Q := am_r_iconst d78_5 (by decide)
theorem r78_6 {a1 a2 : Value} {p : Nat} : am_Rn L xs (d + 1) 78 6 ls (a2 :: a1 :: .ref p :: st) σ Q = ((am_oc σ p = 2 ∧ st.length ≤ 4 ∧ am_ok a1 = true ∧ am_ok a2 = true) ∧ am_Call L xs d 58 [.ref p, a1, a2] σ (fun r σ1 => am_Rn L xs (d + 1) 78 9 ls (r.toList ++ st) σ1 Q)) := am_R_virtual2 d78_6 rfl ⟨by decide, rfl⟩ rfl rfl (by decide)
theorem r78_9 {x : Int32} : am_Rn L xs d 78 9 ls (.int x :: st) σ Q = (2 < ls.length ∧ am_Rn L xs d 78 10 (ls.set 2 (.int x)) st σ Q) := am_r_istore_n d78_9
theorem r78_10  : am_Rn L xs d 78 10 ls st σ Q = am_la ls 0 (fun x => am_Rn L xs d 78 11 ls (x :: st) σ Q) := am_r_aload_n d78_10
theorem r78_11  : am_Rn L xs d 78 11 ls st σ Q = am_la ls 0 (fun x => am_Rn L xs d 78 12 ls (x :: st) σ Q) := am_r_aload_n d78_11
theorem r78_12 {p : Nat} : am_Rn L xs d 78 12 ls (.ref p :: st) σ Q = am_fd σ p 5 4 (fun v => am_Rn L xs d 78 15 ls (v :: st) σ Q) := am_r_getfield d78_12 rfl
theorem r78_15  : am_Rn L xs d 78 15 ls st σ Q = am_li ls 1 (fun x => am_Rn L xs d 78 16 ls (.int x :: st) σ Q) := am_r_iload_n d78_15
theorem r78_16  : am_Rn L xs d 78 16 ls st σ Q = am_Rn L xs d 78 17 ls (.int 2 :: st) σ Q := am_r_iconst d78_16 (by decide)
theorem r78_17 {a1 a2 : Value} {p : Nat} : am_Rn L xs (d + 1) 78 17 ls (a2 :: a1 :: .ref p :: st) σ Q = ((am_oc σ p = 2 ∧ st.length ≤ 4 ∧ am_ok a1 = true ∧ am_ok a2 = true) ∧ am_Call L xs d 58 [.ref p, a1, a2] σ (fun r σ1 => am_Rn L xs (d + 1) 78 20 ls (r.toList ++ st) σ1 Q)) := am_R_virtual2 d78_17 rfl ⟨by decide, rfl⟩ rfl rfl (by decide)
theorem r78_20 {a1 : Value} {p : Nat} : am_Rn L xs (d + 1) 78 20 ls (a1 :: .ref p :: st) σ Q = ((am_oc σ p = 5 ∧ st.length ≤ 4 ∧ am_ok a1 = true) ∧ am_Call L xs d 71 [.ref p, a1] σ (fun r σ1 => am_Rn L xs (d + 1) 78 23 ls (r.toList ++ st) σ1 Q)) := am_R_virtual1 d78_20 rfl ⟨by decide, rfl⟩ rfl rfl (by decide)
theorem r78_23 {x : Int32} : am_Rn L xs d 78 23 ls (.int x :: st) σ Q = (3 < ls.length ∧ am_Rn L xs d 78 24 (ls.set 3 (.int x)) st σ Q) := am_r_istore_n d78_23
theorem r78_24  : am_Rn L xs d 78 24 ls st σ Q = am_la ls 0 (fun x => am_Rn L xs d 78 25 ls (x :: st) σ Q) := am_r_aload_n d78_24
theorem r78_25  : am_Rn L xs d 78 25 ls st σ Q = am_la ls 0 (fun x => am_Rn L xs d 78 26 ls (x :: st) σ Q) := am_r_aload_n d78_25
theorem r78_26 {p : Nat} : am_Rn L xs d 78 26 ls (.ref p :: st) σ Q = am_fd σ p 5 4 (fun v => am_Rn L xs d 78 29 ls (v :: st) σ Q) := am_r_getfield d78_26 rfl
theorem r78_29  : am_Rn L xs d 78 29 ls st σ Q = am_li ls 1 (fun x => am_Rn L xs d 78 30 ls (.int x :: st) σ Q) := am_r_iload_n d78_29
theorem r78_30  : am_Rn L xs d 78 30 ls st σ Q = am_Rn L xs d 78 31 ls (.int 3 :: st) σ Q := am_r_iconst d78_30 (by decide)
theorem r78_31 {a1 a2 : Value} {p : Nat} : am_Rn L xs (d + 1) 78 31 ls (a2 :: a1 :: .ref p :: st) σ Q = ((am_oc σ p = 2 ∧ st.length ≤ 4 ∧ am_ok a1 = true ∧ am_ok a2 = true) ∧ am_Call L xs d 58 [.ref p, a1, a2] σ (fun r σ1 => am_Rn L xs (d + 1) 78 34 ls (r.toList ++ st) σ1 Q)) := am_R_virtual2 d78_31 rfl ⟨by decide, rfl⟩ rfl rfl (by decide)
theorem r78_34 {a1 : Value} {p : Nat} : am_Rn L xs (d + 1) 78 34 ls (a1 :: .ref p :: st) σ Q = ((am_oc σ p = 5 ∧ st.length ≤ 4 ∧ am_ok a1 = true) ∧ am_Call L xs d 71 [.ref p, a1] σ (fun r σ1 => am_Rn L xs (d + 1) 78 37 ls (r.toList ++ st) σ1 Q)) := am_R_virtual1 d78_34 rfl ⟨by decide, rfl⟩ rfl rfl (by decide)
theorem r78_37 {x : Int32} : am_Rn L xs d 78 37 ls (.int x :: st) σ Q = (4 < ls.length ∧ am_Rn L xs d 78 39 (ls.set 4 (.int x)) st σ Q) := am_r_istore d78_37
theorem r78_39  : am_Rn L xs d 78 39 ls st σ Q = am_la ls 0 (fun x => am_Rn L xs d 78 40 ls (x :: st) σ Q) := am_r_aload_n d78_39
theorem r78_40 {p : Nat} : am_Rn L xs d 78 40 ls (.ref p :: st) σ Q = am_fd σ p 5 0 (fun v => am_Rn L xs d 78 43 ls (v :: st) σ Q) := am_r_getfield d78_40 rfl
theorem r78_43  : am_Rn L xs d 78 43 ls st σ Q = am_li ls 2 (fun x => am_Rn L xs d 78 44 ls (.int x :: st) σ Q) := am_r_iload_n d78_43
theorem r78_44 {a1 : Value} {p : Nat} : am_Rn L xs (d + 1) 78 44 ls (a1 :: .ref p :: st) σ Q = ((am_oc σ p = 1 ∧ st.length ≤ 4 ∧ am_ok a1 = true) ∧ am_Call L xs d 9 [.ref p, a1] σ (fun r σ1 => am_Rn L xs (d + 1) 78 47 ls (r.toList ++ st) σ1 Q)) := am_R_virtual1 d78_44 rfl ⟨by decide, rfl⟩ rfl rfl (by decide)
theorem r78_47 {a : Int32} : am_Rn L xs d 78 47 ls (.int a :: st) σ Q = if ¬ a = 0 then am_Rn L xs d 78 52 ls st σ Q else am_Rn L xs d 78 50 ls st σ Q := (am_r_if (t := 52) d78_47 (by decide)).trans (am_ite _ _ trivial (by simp only [am_cond, decide_eq_true_eq]))
theorem r78_50  : am_Rn L xs d 78 50 ls st σ Q = am_Rn L xs d 78 51 ls (.int 0 :: st) σ Q := am_r_iconst d78_50 (by decide)
theorem r78_51 {v : Int32} (hv : v = 0 ∨ v = 1) : am_Rn L xs d 78 51 ls [.int v] σ Q = Q (some (.int v)) σ := am_r_zreturn d78_51 rfl hv
theorem r78_52  : am_Rn L xs d 78 52 ls st σ Q = am_la ls 0 (fun x => am_Rn L xs d 78 53 ls (x :: st) σ Q) := am_r_aload_n d78_52
theorem r78_53 {p : Nat} : am_Rn L xs d 78 53 ls (.ref p :: st) σ Q = am_fd σ p 5 3 (fun v => am_Rn L xs d 78 56 ls (v :: st) σ Q) := am_r_getfield d78_53 rfl
theorem r78_56  : am_Rn L xs d 78 56 ls st σ Q = am_Rn L xs d 78 57 ls (.int 2 :: st) σ Q := am_r_iconst d78_56 (by decide)
theorem r78_57  : am_Rn L xs d 78 57 ls st σ Q = am_li ls 2 (fun x => am_Rn L xs d 78 58 ls (.int x :: st) σ Q) := am_r_iload_n d78_57
theorem r78_58 {a1 a2 : Value} {p : Nat} : am_Rn L xs (d + 1) 78 58 ls (a2 :: a1 :: .ref p :: st) σ Q = ((am_oc σ p = 2 ∧ st.length ≤ 4 ∧ am_ok a1 = true ∧ am_ok a2 = true) ∧ am_Call L xs d 77 [.ref p, a1, a2] σ (fun r σ1 => am_Rn L xs (d + 1) 78 61 ls (r.toList ++ st) σ1 Q)) := am_R_virtual2 d78_58 rfl ⟨by decide, rfl⟩ rfl rfl (by decide)
theorem r78_61 {x : Int32} : am_Rn L xs d 78 61 ls (.int x :: st) σ Q = (5 < ls.length ∧ am_Rn L xs d 78 63 (ls.set 5 (.int x)) st σ Q) := am_r_istore d78_61
theorem r78_63  : am_Rn L xs d 78 63 ls st σ Q = am_li ls 5 (fun x => am_Rn L xs d 78 65 ls (.int x :: st) σ Q) := am_r_iload d78_63
theorem r78_65  : am_Rn L xs d 78 65 ls st σ Q = am_Rn L xs d 78 66 ls (.int (-1) :: st) σ Q := am_r_iconst d78_65 (by decide)
theorem r78_66 {a b : Int32} : am_Rn L xs d 78 66 ls (.int b :: .int a :: st) σ Q = if a = b then am_Rn L xs d 78 79 ls st σ Q else am_Rn L xs d 78 69 ls st σ Q := (am_r_icmp (t := 79) d78_66 (by decide)).trans (am_ite _ _ trivial (by simp only [am_cond, decide_eq_true_eq]))
theorem r78_69  : am_Rn L xs d 78 69 ls st σ Q = am_la ls 0 (fun x => am_Rn L xs d 78 70 ls (x :: st) σ Q) := am_r_aload_n d78_69
theorem r78_70  : am_Rn L xs d 78 70 ls st σ Q = am_li ls 5 (fun x => am_Rn L xs d 78 72 ls (.int x :: st) σ Q) := am_r_iload d78_70
theorem r78_72  : am_Rn L xs d 78 72 ls st σ Q = am_li ls 3 (fun x => am_Rn L xs d 78 73 ls (.int x :: st) σ Q) := am_r_iload_n d78_72
theorem r78_73  : am_Rn L xs d 78 73 ls st σ Q = am_li ls 4 (fun x => am_Rn L xs d 78 75 ls (.int x :: st) σ Q) := am_r_iload d78_73
theorem r78_75 {a1 a2 a3 : Value} {p : Nat} : am_Rn L xs (d + 1) 78 75 ls (a3 :: a2 :: a1 :: .ref p :: st) σ Q = ((am_oc σ p = 5 ∧ st.length ≤ 4 ∧ am_ok a1 = true ∧ am_ok a2 = true ∧ am_ok a3 = true) ∧ am_Call L xs d 73 [.ref p, a1, a2, a3] σ (fun r σ1 => am_Rn L xs (d + 1) 78 78 ls (r.toList ++ st) σ1 Q)) := am_R_virtual3 d78_75 rfl ⟨by decide, rfl⟩ rfl rfl (by decide)
theorem r78_78 {v : Int32} (hv : v = 0 ∨ v = 1) : am_Rn L xs d 78 78 ls [.int v] σ Q = Q (some (.int v)) σ := am_r_zreturn d78_78 rfl hv
theorem r78_79  : am_Rn L xs d 78 79 ls st σ Q = am_la ls 0 (fun x => am_Rn L xs d 78 80 ls (x :: st) σ Q) := am_r_aload_n d78_79
theorem r78_80  : am_Rn L xs d 78 80 ls st σ Q = am_li ls 3 (fun x => am_Rn L xs d 78 81 ls (.int x :: st) σ Q) := am_r_iload_n d78_80
theorem r78_81  : am_Rn L xs d 78 81 ls st σ Q = am_li ls 4 (fun x => am_Rn L xs d 78 83 ls (.int x :: st) σ Q) := am_r_iload d78_81
theorem r78_83 {a1 a2 : Value} {p : Nat} : am_Rn L xs (d + 1) 78 83 ls (a2 :: a1 :: .ref p :: st) σ Q = ((am_oc σ p = 5 ∧ st.length ≤ 4 ∧ am_ok a1 = true ∧ am_ok a2 = true) ∧ am_Call L xs d 75 [.ref p, a1, a2] σ (fun r σ1 => am_Rn L xs (d + 1) 78 86 ls (r.toList ++ st) σ1 Q)) := am_R_virtual2 d78_83 rfl ⟨by decide, rfl⟩ rfl rfl (by decide)
theorem r78_86 {a : Int32} : am_Rn L xs d 78 86 ls (.int a :: st) σ Q = if a = 0 then am_Rn L xs d 78 101 ls st σ Q else am_Rn L xs d 78 89 ls st σ Q := (am_r_if (t := 101) d78_86 (by decide)).trans (am_ite _ _ trivial (by simp only [am_cond, decide_eq_true_eq]))
theorem r78_89  : am_Rn L xs d 78 89 ls st σ Q = am_la ls 0 (fun x => am_Rn L xs d 78 90 ls (x :: st) σ Q) := am_r_aload_n d78_89
theorem r78_90 {p : Nat} : am_Rn L xs d 78 90 ls (.ref p :: st) σ Q = am_fd σ p 5 0 (fun v => am_Rn L xs d 78 93 ls (v :: st) σ Q) := am_r_getfield d78_90 rfl
theorem r78_93  : am_Rn L xs d 78 93 ls st σ Q = am_li ls 3 (fun x => am_Rn L xs d 78 94 ls (.int x :: st) σ Q) := am_r_iload_n d78_93
theorem r78_94  : am_Rn L xs d 78 94 ls st σ Q = am_li ls 2 (fun x => am_Rn L xs d 78 95 ls (.int x :: st) σ Q) := am_r_iload_n d78_94
theorem r78_95 {a1 a2 : Value} {p : Nat} : am_Rn L xs (d + 1) 78 95 ls (a2 :: a1 :: .ref p :: st) σ Q = ((am_oc σ p = 1 ∧ st.length ≤ 4 ∧ am_ok a1 = true ∧ am_ok a2 = true) ∧ am_Call L xs d 79 [.ref p, a1, a2] σ (fun r σ1 => am_Rn L xs (d + 1) 78 98 ls (r.toList ++ st) σ1 Q)) := am_R_virtual2 d78_95 rfl ⟨by decide, rfl⟩ rfl rfl (by decide)
theorem r78_98 {a : Int32} : am_Rn L xs d 78 98 ls (.int a :: st) σ Q = if a = 0 then am_Rn L xs d 78 103 ls st σ Q else am_Rn L xs d 78 101 ls st σ Q := (am_r_if (t := 103) d78_98 (by decide)).trans (am_ite _ _ trivial (by simp only [am_cond, decide_eq_true_eq]))
theorem r78_101  : am_Rn L xs d 78 101 ls st σ Q = am_Rn L xs d 78 102 ls (.int 0 :: st) σ Q := am_r_iconst d78_101 (by decide)
theorem r78_102 {v : Int32} (hv : v = 0 ∨ v = 1) : am_Rn L xs d 78 102 ls [.int v] σ Q = Q (some (.int v)) σ := am_r_zreturn d78_102 rfl hv
theorem r78_103  : am_Rn L xs d 78 103 ls st σ Q = am_la ls 0 (fun x => am_Rn L xs d 78 104 ls (x :: st) σ Q) := am_r_aload_n d78_103
theorem r78_104 {p : Nat} : am_Rn L xs d 78 104 ls (.ref p :: st) σ Q = am_fd σ p 5 0 (fun v => am_Rn L xs d 78 107 ls (v :: st) σ Q) := am_r_getfield d78_104 rfl
theorem r78_107  : am_Rn L xs d 78 107 ls st σ Q = am_li ls 2 (fun x => am_Rn L xs d 78 108 ls (.int x :: st) σ Q) := am_r_iload_n d78_107
theorem r78_108 {a1 : Value} {p : Nat} : am_Rn L xs (d + 1) 78 108 ls (a1 :: .ref p :: st) σ Q = ((am_oc σ p = 1 ∧ st.length ≤ 4 ∧ am_ok a1 = true) ∧ am_Call L xs d 65 [.ref p, a1] σ (fun r σ1 => am_Rn L xs (d + 1) 78 111 ls (r.toList ++ st) σ1 Q)) := am_R_virtual1 d78_108 rfl ⟨by decide, rfl⟩ rfl rfl (by decide)
theorem r78_111  : am_Rn L xs d 78 111 ls st σ Q = am_la ls 0 (fun x => am_Rn L xs d 78 112 ls (x :: st) σ Q) := am_r_aload_n d78_111
theorem r78_112 {p : Nat} : am_Rn L xs d 78 112 ls (.ref p :: st) σ Q = am_fd σ p 5 0 (fun v => am_Rn L xs d 78 115 ls (v :: st) σ Q) := am_r_getfield d78_112 rfl
theorem r78_115  : am_Rn L xs d 78 115 ls st σ Q = am_li ls 2 (fun x => am_Rn L xs d 78 116 ls (.int x :: st) σ Q) := am_r_iload_n d78_115
theorem r78_116  : am_Rn L xs d 78 116 ls st σ Q = am_li ls 3 (fun x => am_Rn L xs d 78 117 ls (.int x :: st) σ Q) := am_r_iload_n d78_116
theorem r78_117  : am_Rn L xs d 78 117 ls st σ Q = am_li ls 4 (fun x => am_Rn L xs d 78 119 ls (.int x :: st) σ Q) := am_r_iload d78_117
theorem r78_119 {a1 a2 a3 : Value} {p : Nat} : am_Rn L xs (d + 1) 78 119 ls (a3 :: a2 :: a1 :: .ref p :: st) σ Q = ((am_oc σ p = 1 ∧ st.length ≤ 4 ∧ am_ok a1 = true ∧ am_ok a2 = true ∧ am_ok a3 = true) ∧ am_Call L xs d 13 [.ref p, a1, a2, a3] σ (fun r σ1 => am_Rn L xs (d + 1) 78 122 ls (r.toList ++ st) σ1 Q)) := am_R_virtual3 d78_119 rfl ⟨by decide, rfl⟩ rfl rfl (by decide)
theorem r78_122  : am_Rn L xs d 78 122 ls st σ Q = am_Rn L xs d 78 123 ls (.int 1 :: st) σ Q := am_r_iconst d78_122 (by decide)
theorem r78_123 {v : Int32} (hv : v = 0 ∨ v = 1) : am_Rn L xs d 78 123 ls [.int v] σ Q = Q (some (.int v)) σ := am_r_zreturn d78_123 rfl hv
theorem d80_0 : decode (pg_code 80) 0 = .ok (.aload_n 0, 1) := by decide +kernel
theorem d80_1 : decode (pg_code 80) 1 = .ok (.getfield 37, 3) := by decide +kernel
theorem d80_4 : decode (pg_code 80) 4 = .ok (.iload_n 1, 1) := by decide +kernel
theorem d80_5 : decode (pg_code 80) 5 = .ok (.iconst 1, 1) := by decide +kernel
theorem d80_6 : decode (pg_code 80) 6 = .ok (.invokevirtual 79, 3) := by decide +kernel
theorem d80_9 : decode (pg_code 80) 9 = .ok (.istore_n 2, 1) := by decide +kernel
theorem d80_10 : decode (pg_code 80) 10 = .ok (.aload_n 0, 1) := by decide +kernel
theorem d80_11 : decode (pg_code 80) 11 = .ok (.getfield 34, 3) := by decide +kernel
theorem d80_14 : decode (pg_code 80) 14 = .ok (.iconst 3, 1) := by decide +kernel
theorem d80_15 : decode (pg_code 80) 15 = .ok (.iload_n 2, 1) := by decide +kernel
theorem d80_16 : decode (pg_code 80) 16 = .ok (.invokevirtual 123, 3) := by decide +kernel
theorem d80_19 : decode (pg_code 80) 19 = .ok (.iconst (-1), 1) := by decide +kernel
theorem d80_20 : decode (pg_code 80) 20 = .ok (.if_icmp .eq 5, 3) := by decide +kernel
theorem d80_23 : decode (pg_code 80) 23 = .ok (.iconst 1, 1) := by decide +kernel
theorem d80_24 : decode (pg_code 80) 24 = .ok (.ireturn, 1) := by decide +kernel
theorem d80_25 : decode (pg_code 80) 25 = .ok (.aload_n 0, 1) := by decide +kernel
theorem d80_26 : decode (pg_code 80) 26 = .ok (.getfield 34, 3) := by decide +kernel
theorem d80_29 : decode (pg_code 80) 29 = .ok (.iconst 1, 1) := by decide +kernel
theorem d80_30 : decode (pg_code 80) 30 = .ok (.iload_n 2, 1) := by decide +kernel
theorem d80_31 : decode (pg_code 80) 31 = .ok (.invokevirtual 123, 3) := by decide +kernel
theorem d80_34 : decode (pg_code 80) 34 = .ok (.iconst (-1), 1) := by decide +kernel
theorem d80_35 : decode (pg_code 80) 35 = .ok (.if_icmp .ne 16, 3) := by decide +kernel
theorem d80_38 : decode (pg_code 80) 38 = .ok (.aload_n 0, 1) := by decide +kernel
theorem d80_39 : decode (pg_code 80) 39 = .ok (.getfield 34, 3) := by decide +kernel
theorem d80_42 : decode (pg_code 80) 42 = .ok (.iconst 2, 1) := by decide +kernel
theorem d80_43 : decode (pg_code 80) 43 = .ok (.iload_n 2, 1) := by decide +kernel
theorem d80_44 : decode (pg_code 80) 44 = .ok (.invokevirtual 123, 3) := by decide +kernel
theorem d80_47 : decode (pg_code 80) 47 = .ok (.iconst (-1), 1) := by decide +kernel
theorem d80_48 : decode (pg_code 80) 48 = .ok (.if_icmp .eq 7, 3) := by decide +kernel
theorem d80_51 : decode (pg_code 80) 51 = .ok (.iconst 1, 1) := by decide +kernel
theorem d80_52 : decode (pg_code 80) 52 = .ok (.goto 4, 3) := by decide +kernel
theorem d80_55 : decode (pg_code 80) 55 = .ok (.iconst 0, 1) := by decide +kernel
theorem d80_56 : decode (pg_code 80) 56 = .ok (.istore_n 3, 1) := by decide +kernel
theorem d80_57 : decode (pg_code 80) 57 = .ok (.iload_n 3, 1) := by decide +kernel
theorem d80_58 : decode (pg_code 80) 58 = .ok (.ifCond .ne 14, 3) := by decide +kernel
theorem d80_61 : decode (pg_code 80) 61 = .ok (.aload_n 0, 1) := by decide +kernel
theorem d80_62 : decode (pg_code 80) 62 = .ok (.getfield 14, 3) := by decide +kernel
theorem d80_65 : decode (pg_code 80) 65 = .ok (.iload_n 2, 1) := by decide +kernel
theorem d80_66 : decode (pg_code 80) 66 = .ok (.invokevirtual 139, 3) := by decide +kernel
theorem d80_69 : decode (pg_code 80) 69 = .ok (.ifCond .le 5, 3) := by decide +kernel
theorem d80_72 : decode (pg_code 80) 72 = .ok (.iconst 0, 1) := by decide +kernel
theorem d80_73 : decode (pg_code 80) 73 = .ok (.ireturn, 1) := by decide +kernel
theorem d80_74 : decode (pg_code 80) 74 = .ok (.aload_n 0, 1) := by decide +kernel
theorem d80_75 : decode (pg_code 80) 75 = .ok (.getfield 14, 3) := by decide +kernel
theorem d80_78 : decode (pg_code 80) 78 = .ok (.iload_n 2, 1) := by decide +kernel
theorem d80_79 : decode (pg_code 80) 79 = .ok (.invokevirtual 136, 3) := by decide +kernel
theorem d80_82 : decode (pg_code 80) 82 = .ok (.iconst 1, 1) := by decide +kernel
theorem d80_83 : decode (pg_code 80) 83 = .ok (.ireturn, 1) := by decide +kernel
theorem e80 {b1 b2 : Value} : am_Call L xs d 80 [b1, b2] σ Q = am_Rn L xs d 80 0 [b1, b2, .retAddr 0, .retAddr 0] [] σ Q := rfl
theorem r80_0  : am_Rn L xs d 80 0 ls st σ Q = am_la ls 0 (fun x => am_Rn L xs d 80 1 ls (x :: st) σ Q) := am_r_aload_n d80_0
theorem r80_1 {p : Nat} : am_Rn L xs d 80 1 ls (.ref p :: st) σ Q = am_fd σ p 5 4 (fun v => am_Rn L xs d 80 4 ls (v :: st) σ Q) := am_r_getfield d80_1 rfl
theorem r80_4  : am_Rn L xs d 80 4 ls st σ Q = am_li ls 1 (fun x => am_Rn L xs d 80 5 ls (.int x :: st) σ Q) := am_r_iload_n d80_4
theorem r80_5  : am_Rn L xs d 80 5 ls st σ Q = am_Rn L xs d 80 6 ls (.int 1 :: st) σ Q := am_r_iconst d80_5 (by decide)
theorem r80_6 {a1 a2 : Value} {p : Nat} : am_Rn L xs (d + 1) 80 6 ls (a2 :: a1 :: .ref p :: st) σ Q = ((am_oc σ p = 2 ∧ st.length ≤ 4 ∧ am_ok a1 = true ∧ am_ok a2 = true) ∧ am_Call L xs d 58 [.ref p, a1, a2] σ (fun r σ1 => am_Rn L xs (d + 1) 80 9 ls (r.toList ++ st) σ1 Q)) := am_R_virtual2 d80_6 rfl ⟨by decide, rfl⟩ rfl rfl (by decide)
theorem r80_9 {x : Int32} : am_Rn L xs d 80 9 ls (.int x :: st) σ Q = (2 < ls.length ∧ am_Rn L xs d 80 10 (ls.set 2 (.int x)) st σ Q) := am_r_istore_n d80_9
theorem r80_10  : am_Rn L xs d 80 10 ls st σ Q = am_la ls 0 (fun x => am_Rn L xs d 80 11 ls (x :: st) σ Q) := am_r_aload_n d80_10
theorem r80_11 {p : Nat} : am_Rn L xs d 80 11 ls (.ref p :: st) σ Q = am_fd σ p 5 3 (fun v => am_Rn L xs d 80 14 ls (v :: st) σ Q) := am_r_getfield d80_11 rfl
theorem r80_14  : am_Rn L xs d 80 14 ls st σ Q = am_Rn L xs d 80 15 ls (.int 3 :: st) σ Q := am_r_iconst d80_14 (by decide)
theorem r80_15  : am_Rn L xs d 80 15 ls st σ Q = am_li ls 2 (fun x => am_Rn L xs d 80 16 ls (.int x :: st) σ Q) := am_r_iload_n d80_15
theorem r80_16 {a1 a2 : Value} {p : Nat} : am_Rn L xs (d + 1) 80 16 ls (a2 :: a1 :: .ref p :: st) σ Q = ((am_oc σ p = 2 ∧ st.length ≤ 4 ∧ am_ok a1 = true ∧ am_ok a2 = true) ∧ am_Call L xs d 77 [.ref p, a1, a2] σ (fun r σ1 => am_Rn L xs (d + 1) 80 19 ls (r.toList ++ st) σ1 Q)) := am_R_virtual2 d80_16 rfl ⟨by decide, rfl⟩ rfl rfl (by decide)
theorem r80_19  : am_Rn L xs d 80 19 ls st σ Q = am_Rn L xs d 80 20 ls (.int (-1) :: st) σ Q := am_r_iconst d80_19 (by decide)
theorem r80_20 {a b : Int32} : am_Rn L xs d 80 20 ls (.int b :: .int a :: st) σ Q = if a = b then am_Rn L xs d 80 25 ls st σ Q else am_Rn L xs d 80 23 ls st σ Q := (am_r_icmp (t := 25) d80_20 (by decide)).trans (am_ite _ _ trivial (by simp only [am_cond, decide_eq_true_eq]))
theorem r80_23  : am_Rn L xs d 80 23 ls st σ Q = am_Rn L xs d 80 24 ls (.int 1 :: st) σ Q := am_r_iconst d80_23 (by decide)
theorem r80_24 {v : Int32} (hv : v = 0 ∨ v = 1) : am_Rn L xs d 80 24 ls [.int v] σ Q = Q (some (.int v)) σ := am_r_zreturn d80_24 rfl hv
theorem r80_25  : am_Rn L xs d 80 25 ls st σ Q = am_la ls 0 (fun x => am_Rn L xs d 80 26 ls (x :: st) σ Q) := am_r_aload_n d80_25
theorem r80_26 {p : Nat} : am_Rn L xs d 80 26 ls (.ref p :: st) σ Q = am_fd σ p 5 3 (fun v => am_Rn L xs d 80 29 ls (v :: st) σ Q) := am_r_getfield d80_26 rfl
theorem r80_29  : am_Rn L xs d 80 29 ls st σ Q = am_Rn L xs d 80 30 ls (.int 1 :: st) σ Q := am_r_iconst d80_29 (by decide)
theorem r80_30  : am_Rn L xs d 80 30 ls st σ Q = am_li ls 2 (fun x => am_Rn L xs d 80 31 ls (.int x :: st) σ Q) := am_r_iload_n d80_30
theorem r80_31 {a1 a2 : Value} {p : Nat} : am_Rn L xs (d + 1) 80 31 ls (a2 :: a1 :: .ref p :: st) σ Q = ((am_oc σ p = 2 ∧ st.length ≤ 4 ∧ am_ok a1 = true ∧ am_ok a2 = true) ∧ am_Call L xs d 77 [.ref p, a1, a2] σ (fun r σ1 => am_Rn L xs (d + 1) 80 34 ls (r.toList ++ st) σ1 Q)) := am_R_virtual2 d80_31 rfl ⟨by decide, rfl⟩ rfl rfl (by decide)
theorem r80_34  : am_Rn L xs d 80 34 ls st σ Q = am_Rn L xs d 80 35 ls (.int (-1) :: st) σ Q := am_r_iconst d80_34 (by decide)
theorem r80_35 {a b : Int32} : am_Rn L xs d 80 35 ls (.int b :: .int a :: st) σ Q = if ¬ a = b then am_Rn L xs d 80 51 ls st σ Q else am_Rn L xs d 80 38 ls st σ Q := (am_r_icmp (t := 51) d80_35 (by decide)).trans (am_ite _ _ trivial (by simp only [am_cond, decide_eq_true_eq]))
theorem r80_38  : am_Rn L xs d 80 38 ls st σ Q = am_la ls 0 (fun x => am_Rn L xs d 80 39 ls (x :: st) σ Q) := am_r_aload_n d80_38
theorem r80_39 {p : Nat} : am_Rn L xs d 80 39 ls (.ref p :: st) σ Q = am_fd σ p 5 3 (fun v => am_Rn L xs d 80 42 ls (v :: st) σ Q) := am_r_getfield d80_39 rfl
theorem r80_42  : am_Rn L xs d 80 42 ls st σ Q = am_Rn L xs d 80 43 ls (.int 2 :: st) σ Q := am_r_iconst d80_42 (by decide)
theorem r80_43  : am_Rn L xs d 80 43 ls st σ Q = am_li ls 2 (fun x => am_Rn L xs d 80 44 ls (.int x :: st) σ Q) := am_r_iload_n d80_43
theorem r80_44 {a1 a2 : Value} {p : Nat} : am_Rn L xs (d + 1) 80 44 ls (a2 :: a1 :: .ref p :: st) σ Q = ((am_oc σ p = 2 ∧ st.length ≤ 4 ∧ am_ok a1 = true ∧ am_ok a2 = true) ∧ am_Call L xs d 77 [.ref p, a1, a2] σ (fun r σ1 => am_Rn L xs (d + 1) 80 47 ls (r.toList ++ st) σ1 Q)) := am_R_virtual2 d80_44 rfl ⟨by decide, rfl⟩ rfl rfl (by decide)
theorem r80_47  : am_Rn L xs d 80 47 ls st σ Q = am_Rn L xs d 80 48 ls (.int (-1) :: st) σ Q := am_r_iconst d80_47 (by decide)
theorem r80_48 {a b : Int32} : am_Rn L xs d 80 48 ls (.int b :: .int a :: st) σ Q = if a = b then am_Rn L xs d 80 55 ls st σ Q else am_Rn L xs d 80 51 ls st σ Q := (am_r_icmp (t := 55) d80_48 (by decide)).trans (am_ite _ _ trivial (by simp only [am_cond, decide_eq_true_eq]))
theorem r80_51  : am_Rn L xs d 80 51 ls st σ Q = am_Rn L xs d 80 52 ls (.int 1 :: st) σ Q := am_r_iconst d80_51 (by decide)
theorem r80_52  : am_Rn L xs d 80 52 ls st σ Q = am_Rn L xs d 80 56 ls st σ Q := am_r_goto d80_52 (by decide)
theorem r80_55  : am_Rn L xs d 80 55 ls st σ Q = am_Rn L xs d 80 56 ls (.int 0 :: st) σ Q := am_r_iconst d80_55 (by decide)
theorem r80_56 {x : Int32} : am_Rn L xs d 80 56 ls (.int x :: st) σ Q = (3 < ls.length ∧ am_Rn L xs d 80 57 (ls.set 3 (.int x)) st σ Q) := am_r_istore_n d80_56
theorem r80_57  : am_Rn L xs d 80 57 ls st σ Q = am_li ls 3 (fun x => am_Rn L xs d 80 58 ls (.int x :: st) σ Q) := am_r_iload_n d80_57
theorem r80_58 {a : Int32} : am_Rn L xs d 80 58 ls (.int a :: st) σ Q = if ¬ a = 0 then am_Rn L xs d 80 72 ls st σ Q else am_Rn L xs d 80 61 ls st σ Q := (am_r_if (t := 72) d80_58 (by decide)).trans (am_ite _ _ trivial (by simp only [am_cond, decide_eq_true_eq]))
theorem r80_61  : am_Rn L xs d 80 61 ls st σ Q = am_la ls 0 (fun x => am_Rn L xs d 80 62 ls (x :: st) σ Q) := am_r_aload_n d80_61
theorem r80_62 {p : Nat} : am_Rn L xs d 80 62 ls (.ref p :: st) σ Q = am_fd σ p 5 0 (fun v => am_Rn L xs d 80 65 ls (v :: st) σ Q) := am_r_getfield d80_62 rfl
theorem r80_65  : am_Rn L xs d 80 65 ls st σ Q = am_li ls 2 (fun x => am_Rn L xs d 80 66 ls (.int x :: st) σ Q) := am_r_iload_n d80_65
theorem r80_66 {a1 : Value} {p : Nat} : am_Rn L xs (d + 1) 80 66 ls (a1 :: .ref p :: st) σ Q = ((am_oc σ p = 1 ∧ st.length ≤ 4 ∧ am_ok a1 = true) ∧ am_Call L xs d 10 [.ref p, a1] σ (fun r σ1 => am_Rn L xs (d + 1) 80 69 ls (r.toList ++ st) σ1 Q)) := am_R_virtual1 d80_66 rfl ⟨by decide, rfl⟩ rfl rfl (by decide)
theorem r80_69 {a : Int32} : am_Rn L xs d 80 69 ls (.int a :: st) σ Q = if a ≤ 0 then am_Rn L xs d 80 74 ls st σ Q else am_Rn L xs d 80 72 ls st σ Q := (am_r_if (t := 74) d80_69 (by decide)).trans (am_ite _ _ trivial (by simp only [am_cond, decide_eq_true_eq]))
theorem r80_72  : am_Rn L xs d 80 72 ls st σ Q = am_Rn L xs d 80 73 ls (.int 0 :: st) σ Q := am_r_iconst d80_72 (by decide)
theorem r80_73 {v : Int32} (hv : v = 0 ∨ v = 1) : am_Rn L xs d 80 73 ls [.int v] σ Q = Q (some (.int v)) σ := am_r_zreturn d80_73 rfl hv
theorem r80_74  : am_Rn L xs d 80 74 ls st σ Q = am_la ls 0 (fun x => am_Rn L xs d 80 75 ls (x :: st) σ Q) := am_r_aload_n d80_74
theorem r80_75 {p : Nat} : am_Rn L xs d 80 75 ls (.ref p :: st) σ Q = am_fd σ p 5 0 (fun v => am_Rn L xs d 80 78 ls (v :: st) σ Q) := am_r_getfield d80_75 rfl
theorem r80_78  : am_Rn L xs d 80 78 ls st σ Q = am_li ls 2 (fun x => am_Rn L xs d 80 79 ls (.int x :: st) σ Q) := am_r_iload_n d80_78
theorem r80_79 {a1 : Value} {p : Nat} : am_Rn L xs (d + 1) 80 79 ls (a1 :: .ref p :: st) σ Q = ((am_oc σ p = 1 ∧ st.length ≤ 4 ∧ am_ok a1 = true) ∧ am_Call L xs d 65 [.ref p, a1] σ (fun r σ1 => am_Rn L xs (d + 1) 80 82 ls (r.toList ++ st) σ1 Q)) := am_R_virtual1 d80_79 rfl ⟨by decide, rfl⟩ rfl rfl (by decide)
theorem r80_82  : am_Rn L xs d 80 82 ls st σ Q = am_Rn L xs d 80 83 ls (.int 1 :: st) σ Q := am_r_iconst d80_82 (by decide)
theorem r80_83 {v : Int32} (hv : v = 0 ∨ v = 1) : am_Rn L xs d 80 83 ls [.int v] σ Q = Q (some (.int v)) σ := am_r_zreturn d80_83 rfl hv
end
