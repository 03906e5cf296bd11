/-! Rows of the program's instructions, written by program (wip/gen/gen_rows.py) -/
section
variable {L : Nat} {xs : Nat → Int32} {d : Nat} {ls st : List Value} {σ : am_S} {Q : Option Value → am_S → Prop}
theorem d7_0 : decode (pg_code 7) 0 = .ok (.iload_n 1, 1) := by decide +kernel
theorem d7_1 : decode (pg_code 7) 1 = .ok (.invokestatic 51, 3) := by decide +kernel
theorem d7_4 : decode (pg_code 7) 4 = .ok (.ifCond .eq 13, 3) := by decide +kernel
theorem d7_7 : decode (pg_code 7) 7 = .ok (.iload_n 3, 1) := by decide +kernel
theorem d7_8 : decode (pg_code 7) 8 = .ok (.ifCond .lt 9, 3) := by decide +kernel
theorem d7_11 : decode (pg_code 7) 11 = .ok (.iload_n 3, 1) := by decide +kernel
theorem d7_12 : decode (pg_code 7) 12 = .ok (.bipush 8, 2) := by decide +kernel
theorem d7_14 : decode (pg_code 7) 14 = .ok (.if_icmp .lt 5, 3) := by decide +kernel
theorem d7_17 : decode (pg_code 7) 17 = .ok (.iconst (-1), 1) := by decide +kernel
theorem d7_18 : decode (pg_code 7) 18 = .ok (.ireturn, 1) := by decide +kernel
theorem d7_19 : decode (pg_code 7) 19 = .ok (.aload_n 0, 1) := by decide +kernel
theorem d7_20 : decode (pg_code 7) 20 = .ok (.getfield 11, 3) := by decide +kernel
theorem d7_23 : decode (pg_code 7) 23 = .ok (.iload_n 1, 1) := by decide +kernel
theorem d7_24 : decode (pg_code 7) 24 = .ok (.aaload, 1) := by decide +kernel
theorem d7_25 : decode (pg_code 7) 25 = .ok (.astore 5, 2) := by decide +kernel
theorem d7_27 : decode (pg_code 7) 27 = .ok (.aload 5, 2) := by decide +kernel
theorem d7_29 : decode (pg_code 7) 29 = .ok (.getfield 55, 3) := by decide +kernel
theorem d7_32 : decode (pg_code 7) 32 = .ok (.ifCond .ne 16, 3) := by decide +kernel
theorem d7_35 : decode (pg_code 7) 35 = .ok (.iload_n 2, 1) := by decide +kernel
theorem d7_36 : decode (pg_code 7) 36 = .ok (.iconst (-1), 1) := by decide +kernel
theorem d7_37 : decode (pg_code 7) 37 = .ok (.if_icmp .ne 7, 3) := by decide +kernel
theorem d7_40 : decode (pg_code 7) 40 = .ok (.iconst 1, 1) := by decide +kernel
theorem d7_41 : decode (pg_code 7) 41 = .ok (.goto 13, 3) := by decide +kernel
theorem d7_44 : decode (pg_code 7) 44 = .ok (.iconst 0, 1) := by decide +kernel
theorem d7_45 : decode (pg_code 7) 45 = .ok (.goto 9, 3) := by decide +kernel
theorem d7_48 : decode (pg_code 7) 48 = .ok (.aload 5, 2) := by decide +kernel
theorem d7_50 : decode (pg_code 7) 50 = .ok (.iload_n 2, 1) := by decide +kernel
theorem d7_51 : decode (pg_code 7) 51 = .ok (.invokevirtual 59, 3) := by decide +kernel
theorem d7_54 : decode (pg_code 7) 54 = .ok (.istore 6, 2) := by decide +kernel
theorem d7_56 : decode (pg_code 7) 56 = .ok (.iload 6, 2) := by decide +kernel
theorem d7_58 : decode (pg_code 7) 58 = .ok (.ifCond .eq 13, 3) := by decide +kernel
theorem d7_61 : decode (pg_code 7) 61 = .ok (.aload 5, 2) := by decide +kernel
theorem d7_63 : decode (pg_code 7) 63 = .ok (.getfield 55, 3) := by decide +kernel
theorem d7_66 : decode (pg_code 7) 66 = .ok (.bipush 12, 2) := by decide +kernel
theorem d7_68 : decode (pg_code 7) 68 = .ok (.if_icmp .lt 5, 3) := by decide +kernel
theorem d7_71 : decode (pg_code 7) 71 = .ok (.iconst (-1), 1) := by decide +kernel
theorem d7_72 : decode (pg_code 7) 72 = .ok (.ireturn, 1) := by decide +kernel
theorem d7_73 : decode (pg_code 7) 73 = .ok (.aload 5, 2) := by decide +kernel
theorem d7_75 : decode (pg_code 7) 75 = .ok (.getfield 55, 3) := by decide +kernel
theorem d7_78 : decode (pg_code 7) 78 = .ok (.istore 7, 2) := by decide +kernel
theorem d7_80 : decode (pg_code 7) 80 = .ok (.aload 5, 2) := by decide +kernel
theorem d7_82 : decode (pg_code 7) 82 = .ok (.iload_n 2, 1) := by decide +kernel
theorem d7_83 : decode (pg_code 7) 83 = .ok (.aload 5, 2) := by decide +kernel
theorem d7_85 : decode (pg_code 7) 85 = .ok (.iload_n 2, 1) := by decide +kernel
theorem d7_86 : decode (pg_code 7) 86 = .ok (.invokevirtual 62, 3) := by decide +kernel
theorem d7_89 : decode (pg_code 7) 89 = .ok (.iconst 1, 1) := by decide +kernel
theorem d7_90 : decode (pg_code 7) 90 = .ok (.isub, 1) := by decide +kernel
theorem d7_91 : decode (pg_code 7) 91 = .ok (.invokevirtual 66, 3) := by decide +kernel
theorem d7_94 : decode (pg_code 7) 94 = .ok (.istore 8, 2) := by decide +kernel
theorem d7_96 : decode (pg_code 7) 96 = .ok (.aload 5, 2) := by decide +kernel
theorem d7_98 : decode (pg_code 7) 98 = .ok (.iload 7, 2) := by decide +kernel
theorem d7_100 : decode (pg_code 7) 100 = .ok (.iload_n 3, 1) := by decide +kernel
theorem d7_101 : decode (pg_code 7) 101 = .ok (.iload 4, 2) := by decide +kernel
theorem d7_103 : decode (pg_code 7) 103 = .ok (.invokevirtual 70, 3) := by decide +kernel
theorem d7_106 : decode (pg_code 7) 106 = .ok (.aload 5, 2) := by decide +kernel
theorem d7_108 : decode (pg_code 7) 108 = .ok (.iload 7, 2) := by decide +kernel
theorem d7_110 : decode (pg_code 7) 110 = .ok (.iload_n 2, 1) := by decide +kernel
theorem d7_111 : decode (pg_code 7) 111 = .ok (.iload 8, 2) := by decide +kernel
theorem d7_113 : decode (pg_code 7) 113 = .ok (.invokevirtual 74, 3) := by decide +kernel
theorem d7_116 : decode (pg_code 7) 116 = .ok (.iload 7, 2) := by decide +kernel
theorem d7_118 : decode (pg_code 7) 118 = .ok (.ireturn, 1) := by decide +kernel
theorem e7 {b1 b2 b3 b4 b5 : Value} : am_Call L xs d 7 [b1, b2, b3, b4, b5] σ Q = am_Rn L xs d 7 0 [b1, b2, b3, b4, b5, .retAddr 0, .retAddr 0, .retAddr 0, .retAddr 0] [] σ Q := rfl
theorem r7_0  : am_Rn L xs d 7 0 ls st σ Q = am_li ls 1 (fun x => am_Rn L xs d 7 1 ls (.int x :: st) σ Q) := am_r_iload_n d7_0
theorem r7_1 {a1 : Value} : am_Rn L xs (d + 1) 7 1 ls (a1 :: st) σ Q = ((st.length ≤ 4 ∧ am_ok a1 = true) ∧ am_Call L xs d 8 [a1] σ (fun r σ1 => am_Rn L xs (d + 1) 7 4 ls (r.toList ++ st) σ1 Q)) := am_R_static1 d7_1 rfl ⟨by decide, rfl⟩ rfl (by decide)
theorem r7_4 {a : Int32} : am_Rn L xs d 7 4 ls (.int a :: st) σ Q = if a = 0 then am_Rn L xs d 7 17 ls st σ Q else am_Rn L xs d 7 7 ls st σ Q := (am_r_if (t := 17) d7_4 (by decide)).trans (am_ite _ _ trivial (by simp only [am_cond, decide_eq_true_eq]))
theorem r7_7  : am_Rn L xs d 7 7 ls st σ Q = am_li ls 3 (fun x => am_Rn L xs d 7 8 ls (.int x :: st) σ Q) := am_r_iload_n d7_7
theorem r7_8 {a : Int32} : am_Rn L xs d 7 8 ls (.int a :: st) σ Q = if a < 0 then am_Rn L xs d 7 17 ls st σ Q else am_Rn L xs d 7 11 ls st σ Q := (am_r_if (t := 17) d7_8 (by decide)).trans (am_ite _ _ trivial (by simp only [am_cond, decide_eq_true_eq]))
theorem r7_11  : am_Rn L xs d 7 11 ls st σ Q = am_li ls 3 (fun x => am_Rn L xs d 7 12 ls (.int x :: st) σ Q) := am_r_iload_n d7_11
theorem r7_12  : am_Rn L xs d 7 12 ls st σ Q = am_Rn L xs d 7 14 ls (.int 8 :: st) σ Q := am_r_bipush d7_12 (by decide)
theorem r7_14 {a b : Int32} : am_Rn L xs d 7 14 ls (.int b :: .int a :: st) σ Q = if a < b then am_Rn L xs d 7 19 ls st σ Q else am_Rn L xs d 7 17 ls st σ Q := (am_r_icmp (t := 19) d7_14 (by decide)).trans (am_ite _ _ trivial (by simp only [am_cond, decide_eq_true_eq]))
theorem r7_17  : am_Rn L xs d 7 17 ls st σ Q = am_Rn L xs d 7 18 ls (.int (-1) :: st) σ Q := am_r_iconst d7_17 (by decide)
theorem r7_18 {v : Int32} : am_Rn L xs d 7 18 ls [.int v] σ Q = Q (some (.int v)) σ := am_r_ireturn d7_18 rfl
theorem r7_19  : am_Rn L xs d 7 19 ls st σ Q = am_la ls 0 (fun x => am_Rn L xs d 7 20 ls (x :: st) σ Q) := am_r_aload_n d7_19
theorem r7_20 {p : Nat} : am_Rn L xs d 7 20 ls (.ref p :: st) σ Q = am_fd σ p 0 0 (fun v => am_Rn L xs d 7 23 ls (v :: st) σ Q) := am_r_getfield d7_20 rfl
theorem r7_23  : am_Rn L xs d 7 23 ls st σ Q = am_li ls 1 (fun x => am_Rn L xs d 7 24 ls (.int x :: st) σ Q) := am_r_iload_n d7_23
theorem r7_24 {p : Nat} {i : Int32} : am_Rn L xs d 7 24 ls (.int i :: .ref p :: st) σ Q = am_ar2 σ p i (fun q => am_Rn L xs d 7 25 ls (.ref q :: st) σ Q) := am_r_aaload d7_24
theorem r7_25 {x : Nat} : am_Rn L xs d 7 25 ls (.ref x :: st) σ Q = (5 < ls.length ∧ am_Rn L xs d 7 27 (ls.set 5 (.ref x)) st σ Q) := am_r_astore d7_25
theorem r7_27  : am_Rn L xs d 7 27 ls st σ Q = am_la ls 5 (fun x => am_Rn L xs d 7 29 ls (x :: st) σ Q) := am_r_aload d7_27
theorem r7_29 {p : Nat} : am_Rn L xs d 7 29 ls (.ref p :: st) σ Q = am_fd σ p 1 4 (fun v => am_Rn L xs d 7 32 ls (v :: st) σ Q) := am_r_getfield d7_29 rfl
theorem r7_32 {a : Int32} : am_Rn L xs d 7 32 ls (.int a :: st) σ Q = if ¬ a = 0 then am_Rn L xs d 7 48 ls st σ Q else am_Rn L xs d 7 35 ls st σ Q := (am_r_if (t := 48) d7_32 (by decide)).trans (am_ite _ _ trivial (by simp only [am_cond, decide_eq_true_eq]))
theorem r7_35  : am_Rn L xs d 7 35 ls st σ Q = am_li ls 2 (fun x => am_Rn L xs d 7 36 ls (.int x :: st) σ Q) := am_r_iload_n d7_35
theorem r7_36  : am_Rn L xs d 7 36 ls st σ Q = am_Rn L xs d 7 37 ls (.int (-1) :: st) σ Q := am_r_iconst d7_36 (by decide)
theorem r7_37 {a b : Int32} : am_Rn L xs d 7 37 ls (.int b :: .int a :: st) σ Q = if ¬ a = b then am_Rn L xs d 7 44 ls st σ Q else am_Rn L xs d 7 40 ls st σ Q := (am_r_icmp (t := 44) d7_37 (by decide)).trans (am_ite _ _ trivial (by simp only [am_cond, decide_eq_true_eq]))
theorem r7_40  : am_Rn L xs d 7 40 ls st σ Q = am_Rn L xs d 7 41 ls (.int 1 :: st) σ Q := am_r_iconst d7_40 (by decide)
theorem r7_41  : am_Rn L xs d 7 41 ls st σ Q = am_Rn L xs d 7 54 ls st σ Q := am_r_goto d7_41 (by decide)
theorem r7_44  : am_Rn L xs d 7 44 ls st σ Q = am_Rn L xs d 7 45 ls (.int 0 :: st) σ Q := am_r_iconst d7_44 (by decide)
theorem r7_45  : am_Rn L xs d 7 45 ls st σ Q = am_Rn L xs d 7 54 ls st σ Q := am_r_goto d7_45 (by decide)
theorem r7_48  : am_Rn L xs d 7 48 ls st σ Q = am_la ls 5 (fun x => am_Rn L xs d 7 50 ls (x :: st) σ Q) := am_r_aload d7_48
theorem r7_50  : am_Rn L xs d 7 50 ls st σ Q = am_li ls 2 (fun x => am_Rn L xs d 7 51 ls (.int x :: st) σ Q) := am_r_iload_n d7_50
theorem r7_51 {a1 : Value} {p : Nat} : am_Rn L xs (d + 1) 7 51 ls (a1 :: .ref p :: st) σ Q = ((am_oc σ p = 1 ∧ st.length ≤ 4 ∧ am_ok a1 = true) ∧ am_Call L xs d 9 [.ref p, a1] σ (fun r σ1 => am_Rn L xs (d + 1) 7 54 ls (r.toList ++ st) σ1 Q)) := am_R_virtual1 d7_51 rfl ⟨by decide, rfl⟩ rfl rfl (by decide)
theorem r7_54 {x : Int32} : am_Rn L xs d 7 54 ls (.int x :: st) σ Q = (6 < ls.length ∧ am_Rn L xs d 7 56 (ls.set 6 (.int x)) st σ Q) := am_r_istore d7_54
theorem r7_56  : am_Rn L xs d 7 56 ls st σ Q = am_li ls 6 (fun x => am_Rn L xs d 7 58 ls (.int x :: st) σ Q) := am_r_iload d7_56
theorem r7_58 {a : Int32} : am_Rn L xs d 7 58 ls (.int a :: st) σ Q = if a = 0 then am_Rn L xs d 7 71 ls st σ Q else am_Rn L xs d 7 61 ls st σ Q := (am_r_if (t := 71) d7_58 (by decide)).trans (am_ite _ _ trivial (by simp only [am_cond, decide_eq_true_eq]))
theorem r7_61  : am_Rn L xs d 7 61 ls st σ Q = am_la ls 5 (fun x => am_Rn L xs d 7 63 ls (x :: st) σ Q) := am_r_aload d7_61
theorem r7_63 {p : Nat} : am_Rn L xs d 7 63 ls (.ref p :: st) σ Q = am_fd σ p 1 4 (fun v => am_Rn L xs d 7 66 ls (v :: st) σ Q) := am_r_getfield d7_63 rfl
theorem r7_66  : am_Rn L xs d 7 66 ls st σ Q = am_Rn L xs d 7 68 ls (.int 12 :: st) σ Q := am_r_bipush d7_66 (by decide)
theorem r7_68 {a b : Int32} : am_Rn L xs d 7 68 ls (.int b :: .int a :: st) σ Q = if a < b then am_Rn L xs d 7 73 ls st σ Q else am_Rn L xs d 7 71 ls st σ Q := (am_r_icmp (t := 73) d7_68 (by decide)).trans (am_ite _ _ trivial (by simp only [am_cond, decide_eq_true_eq]))
theorem r7_71  : am_Rn L xs d 7 71 ls st σ Q = am_Rn L xs d 7 72 ls (.int (-1) :: st) σ Q := am_r_iconst d7_71 (by decide)
theorem r7_72 {v : Int32} : am_Rn L xs d 7 72 ls [.int v] σ Q = Q (some (.int v)) σ := am_r_ireturn d7_72 rfl
theorem r7_73  : am_Rn L xs d 7 73 ls st σ Q = am_la ls 5 (fun x => am_Rn L xs d 7 75 ls (x :: st) σ Q) := am_r_aload d7_73
theorem r7_75 {p : Nat} : am_Rn L xs d 7 75 ls (.ref p :: st) σ Q = am_fd σ p 1 4 (fun v => am_Rn L xs d 7 78 ls (v :: st) σ Q) := am_r_getfield d7_75 rfl
theorem r7_78 {x : Int32} : am_Rn L xs d 7 78 ls (.int x :: st) σ Q = (7 < ls.length ∧ am_Rn L xs d 7 80 (ls.set 7 (.int x)) st σ Q) := am_r_istore d7_78
theorem r7_80  : am_Rn L xs d 7 80 ls st σ Q = am_la ls 5 (fun x => am_Rn L xs d 7 82 ls (x :: st) σ Q) := am_r_aload d7_80
theorem r7_82  : am_Rn L xs d 7 82 ls st σ Q = am_li ls 2 (fun x => am_Rn L xs d 7 83 ls (.int x :: st) σ Q) := am_r_iload_n d7_82
theorem r7_83  : am_Rn L xs d 7 83 ls st σ Q = am_la ls 5 (fun x => am_Rn L xs d 7 85 ls (x :: st) σ Q) := am_r_aload d7_83
theorem r7_85  : am_Rn L xs d 7 85 ls st σ Q = am_li ls 2 (fun x => am_Rn L xs d 7 86 ls (.int x :: st) σ Q) := am_r_iload_n d7_85
theorem r7_86 {a1 : Value} {p : Nat} : am_Rn L xs (d + 1) 7 86 ls (a1 :: .ref p :: st) σ Q = ((am_oc σ p = 1 ∧ st.length ≤ 4 ∧ am_ok a1 = true) ∧ am_Call L xs d 10 [.ref p, a1] σ (fun r σ1 => am_Rn L xs (d + 1) 7 89 ls (r.toList ++ st) σ1 Q)) := am_R_virtual1 d7_86 rfl ⟨by decide, rfl⟩ rfl rfl (by decide)
theorem r7_89  : am_Rn L xs d 7 89 ls st σ Q = am_Rn L xs d 7 90 ls (.int 1 :: st) σ Q := am_r_iconst d7_89 (by decide)
theorem r7_90 {a b : Int32} : am_Rn L xs d 7 90 ls (.int b :: .int a :: st) σ Q = am_Rn L xs d 7 91 ls (.int (a - b) :: st) σ Q := am_r_isub d7_90
theorem r7_91 {a1 a2 : Value} {p : Nat} : am_Rn L xs (d + 1) 7 91 ls (a2 :: a1 :: .ref p :: st) σ Q = ((am_oc σ p = 1 ∧ st.length ≤ 4 ∧ am_ok a1 = true ∧ am_ok a2 = true) ∧ am_Call L xs d 11 [.ref p, a1, a2] σ (fun r σ1 => am_Rn L xs (d + 1) 7 94 ls (r.toList ++ st) σ1 Q)) := am_R_virtual2 d7_91 rfl ⟨by decide, rfl⟩ rfl rfl (by decide)
theorem r7_94 {x : Int32} : am_Rn L xs d 7 94 ls (.int x :: st) σ Q = (8 < ls.length ∧ am_Rn L xs d 7 96 (ls.set 8 (.int x)) st σ Q) := am_r_istore d7_94
theorem r7_96  : am_Rn L xs d 7 96 ls st σ Q = am_la ls 5 (fun x => am_Rn L xs d 7 98 ls (x :: st) σ Q) := am_r_aload d7_96
theorem r7_98  : am_Rn L xs d 7 98 ls st σ Q = am_li ls 7 (fun x => am_Rn L xs d 7 100 ls (.int x :: st) σ Q) := am_r_iload d7_98
theorem r7_100  : am_Rn L xs d 7 100 ls st σ Q = am_li ls 3 (fun x => am_Rn L xs d 7 101 ls (.int x :: st) σ Q) := am_r_iload_n d7_100
theorem r7_101  : am_Rn L xs d 7 101 ls st σ Q = am_li ls 4 (fun x => am_Rn L xs d 7 103 ls (.int x :: st) σ Q) := am_r_iload d7_101
theorem r7_103 {a1 a2 a3 : Value} {p : Nat} : am_Rn L xs (d + 1) 7 103 ls (a3 :: a2 :: a1 :: .ref p :: st) σ Q = ((am_oc σ p = 1 ∧ st.length ≤ 4 ∧ am_ok a1 = true ∧ am_ok a2 = true ∧ am_ok a3 = true) ∧ am_Call L xs d 12 [.ref p, a1, a2, a3] σ (fun r σ1 => am_Rn L xs (d + 1) 7 106 ls (r.toList ++ st) σ1 Q)) := am_R_virtual3 d7_103 rfl ⟨by decide, rfl⟩ rfl rfl (by decide)
theorem r7_106  : am_Rn L xs d 7 106 ls st σ Q = am_la ls 5 (fun x => am_Rn L xs d 7 108 ls (x :: st) σ Q) := am_r_aload d7_106
theorem r7_108  : am_Rn L xs d 7 108 ls st σ Q = am_li ls 7 (fun x => am_Rn L xs d 7 110 ls (.int x :: st) σ Q) := am_r_iload d7_108
theorem r7_110  : am_Rn L xs d 7 110 ls st σ Q = am_li ls 2 (fun x => am_Rn L xs d 7 111 ls (.int x :: st) σ Q) := am_r_iload_n d7_110
theorem r7_111  : am_Rn L xs d 7 111 ls st σ Q = am_li ls 8 (fun x => am_Rn L xs d 7 113 ls (.int x :: st) σ Q) := am_r_iload d7_111
theorem r7_113 {a1 a2 a3 : Value} {p : Nat} : am_Rn L xs (d + 1) 7 113 ls (a3 :: a2 :: a1 :: .ref p :: st) σ Q = ((am_oc σ p = 1 ∧ st.length ≤ 4 ∧ am_ok a1 = true ∧ am_ok a2 = true ∧ am_ok a3 = true) ∧ am_Call L xs d 13 [.ref p, a1, a2, a3] σ (fun r σ1 => am_Rn L xs (d + 1) 7 116 ls (r.toList ++ st) σ1 Q)) := am_R_virtual3 d7_113 rfl ⟨by decide, rfl⟩ rfl rfl (by decide)
theorem r7_116  : am_Rn L xs d 7 116 ls st σ Q = am_li ls 7 (fun x => am_Rn L xs d 7 118 ls (.int x :: st) σ Q) := am_r_iload d7_116
theorem r7_118 {v : Int32} : am_Rn L xs d 7 118 ls [.int v] σ Q = Q (some (.int v)) σ := am_r_ireturn d7_118 rfl
theorem d8_0 : decode (pg_code 8) 0 = .ok (.iload_n 0, 1) := by decide +kernel
theorem d8_1 : decode (pg_code 8) 1 = .ok (.ifCond .lt 12, 3) := by decide +kernel
theorem d8_4 : decode (pg_code 8) 4 = .ok (.iload_n 0, 1) := by decide +kernel
theorem d8_5 : decode (pg_code 8) 5 = .ok (.iconst 3, 1) := by decide +kernel
theorem d8_6 : decode (pg_code 8) 6 = .ok (.if_icmp .ge 7, 3) := by decide +kernel
theorem d8_9 : decode (pg_code 8) 9 = .ok (.iconst 1, 1) := by decide +kernel
theorem d8_10 : decode (pg_code 8) 10 = .ok (.goto 4, 3) := by decide +kernel
theorem d8_13 : decode (pg_code 8) 13 = .ok (.iconst 0, 1) := by decide +kernel
theorem d8_14 : decode (pg_code 8) 14 = .ok (.ireturn, 1) := by decide +kernel
theorem e8 {b1 : Value} : am_Call L xs d 8 [b1] σ Q = am_Rn L xs d 8 0 [b1] [] σ Q := rfl
theorem r8_0  : am_Rn L xs d 8 0 ls st σ Q = am_li ls 0 (fun x => am_Rn L xs d 8 1 ls (.int x :: st) σ Q) := am_r_iload_n d8_0
theorem r8_1 {a : Int32} : am_Rn L xs d 8 1 ls (.int a :: st) σ Q = if a < 0 then am_Rn L xs d 8 13 ls st σ Q else am_Rn L xs d 8 4 ls st σ Q := (am_r_if (t := 13) d8_1 (by decide)).trans (am_ite _ _ trivial (by simp only [am_cond, decide_eq_true_eq]))
theorem r8_4  : am_Rn L xs d 8 4 ls st σ Q = am_li ls 0 (fun x => am_Rn L xs d 8 5 ls (.int x :: st) σ Q) := am_r_iload_n d8_4
theorem r8_5  : am_Rn L xs d 8 5 ls st σ Q = am_Rn L xs d 8 6 ls (.int 3 :: st) σ Q := am_r_iconst d8_5 (by decide)
theorem r8_6 {a b : Int32} : am_Rn L xs d 8 6 ls (.int b :: .int a :: st) σ Q = if b ≤ a then am_Rn L xs d 8 13 ls st σ Q else am_Rn L xs d 8 9 ls st σ Q := (am_r_icmp (t := 13) d8_6 (by decide)).trans (am_ite _ _ trivial (by simp only [am_cond, decide_eq_true_eq]))
theorem r8_9  : am_Rn L xs d 8 9 ls st σ Q = am_Rn L xs d 8 10 ls (.int 1 :: st) σ Q := am_r_iconst d8_9 (by decide)
theorem r8_10  : am_Rn L xs d 8 10 ls st σ Q = am_Rn L xs d 8 14 ls st σ Q := am_r_goto d8_10 (by decide)
theorem r8_13  : am_Rn L xs d 8 13 ls st σ Q = am_Rn L xs d 8 14 ls (.int 0 :: st) σ Q := am_r_iconst d8_13 (by decide)
theorem r8_14 {v : Int32} (hv : v = 0 ∨ v = 1) : am_Rn L xs d 8 14 ls [.int v] σ Q = Q (some (.int v)) σ := am_r_zreturn d8_14 rfl hv
theorem d14_0 : decode (pg_code 14) 0 = .ok (.iload_n 1, 1) := by decide +kernel
theorem d14_1 : decode (pg_code 14) 1 = .ok (.invokestatic 51, 3) := by decide +kernel
theorem d14_4 : decode (pg_code 14) 4 = .ok (.ifCond .ne 5, 3) := by decide +kernel
theorem d14_7 : decode (pg_code 14) 7 = .ok (.iconst 0, 1) := by decide +kernel
theorem d14_8 : decode (pg_code 14) 8 = .ok (.ireturn, 1) := by decide +kernel
theorem d14_9 : decode (pg_code 14) 9 = .ok (.aload_n 0, 1) := by decide +kernel
theorem d14_10 : decode (pg_code 14) 10 = .ok (.getfield 11, 3) := by decide +kernel
theorem d14_13 : decode (pg_code 14) 13 = .ok (.iload_n 1, 1) := by decide +kernel
theorem d14_14 : decode (pg_code 14) 14 = .ok (.aaload, 1) := by decide +kernel
theorem d14_15 : decode (pg_code 14) 15 = .ok (.invokevirtual 77, 3) := by decide +kernel
theorem d14_18 : decode (pg_code 14) 18 = .ok (.iconst 1, 1) := by decide +kernel
theorem d14_19 : decode (pg_code 14) 19 = .ok (.ireturn, 1) := by decide +kernel
theorem e14 {b1 b2 : Value} : am_Call L xs d 14 [b1, b2] σ Q = am_Rn L xs d 14 0 [b1, b2] [] σ Q := rfl
theorem r14_0  : am_Rn L xs d 14 0 ls st σ Q = am_li ls 1 (fun x => am_Rn L xs d 14 1 ls (.int x :: st) σ Q) := am_r_iload_n d14_0
theorem r14_1 {a1 : Value} : am_Rn L xs (d + 1) 14 1 ls (a1 :: st) σ Q = ((st.length ≤ 4 ∧ am_ok a1 = true) ∧ am_Call L xs d 8 [a1] σ (fun r σ1 => am_Rn L xs (d + 1) 14 4 ls (r.toList ++ st) σ1 Q)) := am_R_static1 d14_1 rfl ⟨by decide, rfl⟩ rfl (by decide)
theorem r14_4 {a : Int32} : am_Rn L xs d 14 4 ls (.int a :: st) σ Q = if ¬ a = 0 then am_Rn L xs d 14 9 ls st σ Q else am_Rn L xs d 14 7 ls st σ Q := (am_r_if (t := 9) d14_4 (by decide)).trans (am_ite _ _ trivial (by simp only [am_cond, decide_eq_true_eq]))
theorem r14_7  : am_Rn L xs d 14 7 ls st σ Q = am_Rn L xs d 14 8 ls (.int 0 :: st) σ Q := am_r_iconst d14_7 (by decide)
theorem r14_8 {v : Int32} (hv : v = 0 ∨ v = 1) : am_Rn L xs d 14 8 ls [.int v] σ Q = Q (some (.int v)) σ := am_r_zreturn d14_8 rfl hv
theorem r14_9  : am_Rn L xs d 14 9 ls st σ Q = am_la ls 0 (fun x => am_Rn L xs d 14 10 ls (x :: st) σ Q) := am_r_aload_n d14_9
theorem r14_10 {p : Nat} : am_Rn L xs d 14 10 ls (.ref p :: st) σ Q = am_fd σ p 0 0 (fun v => am_Rn L xs d 14 13 ls (v :: st) σ Q) := am_r_getfield d14_10 rfl
theorem r14_13  : am_Rn L xs d 14 13 ls st σ Q = am_li ls 1 (fun x => am_Rn L xs d 14 14 ls (.int x :: st) σ Q) := am_r_iload_n d14_13
theorem r14_14 {p : Nat} {i : Int32} : am_Rn L xs d 14 14 ls (.int i :: .ref p :: st) σ Q = am_ar2 σ p i (fun q => am_Rn L xs d 14 15 ls (.ref q :: st) σ Q) := am_r_aaload d14_14
theorem r14_15 {p : Nat} : am_Rn L xs (d + 1) 14 15 ls (.ref p :: st) σ Q = ((am_oc σ p = 1 ∧ st.length ≤ 4) ∧ am_Call L xs d 15 [.ref p] σ (fun r σ1 => am_Rn L xs (d + 1) 14 18 ls (r.toList ++ st) σ1 Q)) := am_R_virtual0 d14_15 rfl ⟨by decide, rfl⟩ rfl rfl (by decide)
theorem r14_18  : am_Rn L xs d 14 18 ls st σ Q = am_Rn L xs d 14 19 ls (.int 1 :: st) σ Q := am_r_iconst d14_18 (by decide)
theorem r14_19 {v : Int32} (hv : v = 0 ∨ v = 1) : am_Rn L xs d 14 19 ls [.int v] σ Q = Q (some (.int v)) σ := am_r_zreturn d14_19 rfl hv
theorem d16_0 : decode (pg_code 16) 0 = .ok (.iload_n 1, 1) := by decide +kernel
theorem d16_1 : decode (pg_code 16) 1 = .ok (.invokestatic 51, 3) := by decide +kernel
theorem d16_4 : decode (pg_code 16) 4 = .ok (.ifCond .eq 15, 3) := by decide +kernel
theorem d16_7 : decode (pg_code 16) 7 = .ok (.aload_n 0, 1) := by decide +kernel
theorem d16_8 : decode (pg_code 16) 8 = .ok (.getfield 11, 3) := by decide +kernel
theorem d16_11 : decode (pg_code 16) 11 = .ok (.iload_n 1, 1) := by decide +kernel
theorem d16_12 : decode (pg_code 16) 12 = .ok (.aaload, 1) := by decide +kernel
theorem d16_13 : decode (pg_code 16) 13 = .ok (.getfield 55, 3) := by decide +kernel
theorem d16_16 : decode (pg_code 16) 16 = .ok (.goto 4, 3) := by decide +kernel
theorem d16_19 : decode (pg_code 16) 19 = .ok (.iconst (-1), 1) := by decide +kernel
theorem d16_20 : decode (pg_code 16) 20 = .ok (.ireturn, 1) := by decide +kernel
theorem e16 {b1 b2 : Value} : am_Call L xs d 16 [b1, b2] σ Q = am_Rn L xs d 16 0 [b1, b2] [] σ Q := rfl
theorem r16_0  : am_Rn L xs d 16 0 ls st σ Q = am_li ls 1 (fun x => am_Rn L xs d 16 1 ls (.int x :: st) σ Q) := am_r_iload_n d16_0
theorem r16_1 {a1 : Value} : am_Rn L xs (d + 1) 16 1 ls (a1 :: st) σ Q = ((st.length ≤ 4 ∧ am_ok a1 = true) ∧ am_Call L xs d 8 [a1] σ (fun r σ1 => am_Rn L xs (d + 1) 16 4 ls (r.toList ++ st) σ1 Q)) := am_R_static1 d16_1 rfl ⟨by decide, rfl⟩ rfl (by decide)
theorem r16_4 {a : Int32} : am_Rn L xs d 16 4 ls (.int a :: st) σ Q = if a = 0 then am_Rn L xs d 16 19 ls st σ Q else am_Rn L xs d 16 7 ls st σ Q := (am_r_if (t := 19) d16_4 (by decide)).trans (am_ite _ _ trivial (by simp only [am_cond, decide_eq_true_eq]))
theorem r16_7  : am_Rn L xs d 16 7 ls st σ Q = am_la ls 0 (fun x => am_Rn L xs d 16 8 ls (x :: st) σ Q) := am_r_aload_n d16_7
theorem r16_8 {p : Nat} : am_Rn L xs d 16 8 ls (.ref p :: st) σ Q = am_fd σ p 0 0 (fun v => am_Rn L xs d 16 11 ls (v :: st) σ Q) := am_r_getfield d16_8 rfl
theorem r16_11  : am_Rn L xs d 16 11 ls st σ Q = am_li ls 1 (fun x => am_Rn L xs d 16 12 ls (.int x :: st) σ Q) := am_r_iload_n d16_11
theorem r16_12 {p : Nat} {i : Int32} : am_Rn L xs d 16 12 ls (.int i :: .ref p :: st) σ Q = am_ar2 σ p i (fun q => am_Rn L xs d 16 13 ls (.ref q :: st) σ Q) := am_r_aaload d16_12
theorem r16_13 {p : Nat} : am_Rn L xs d 16 13 ls (.ref p :: st) σ Q = am_fd σ p 1 4 (fun v => am_Rn L xs d 16 16 ls (v :: st) σ Q) := am_r_getfield d16_13 rfl
theorem r16_16  : am_Rn L xs d 16 16 ls st σ Q = am_Rn L xs d 16 20 ls st σ Q := am_r_goto d16_16 (by decide)
theorem r16_19  : am_Rn L xs d 16 19 ls st σ Q = am_Rn L xs d 16 20 ls (.int (-1) :: st) σ Q := am_r_iconst d16_19 (by decide)
theorem r16_20 {v : Int32} : am_Rn L xs d 16 20 ls [.int v] σ Q = Q (some (.int v)) σ := am_r_ireturn d16_20 rfl
theorem d17_0 : decode (pg_code 17) 0 = .ok (.iload_n 1, 1) := by decide +kernel
theorem d17_1 : decode (pg_code 17) 1 = .ok (.invokestatic 51, 3) := by decide +kernel
theorem d17_4 : decode (pg_code 17) 4 = .ok (.ifCond .eq 16, 3) := by decide +kernel
theorem d17_7 : decode (pg_code 17) 7 = .ok (.aload_n 0, 1) := by decide +kernel
theorem d17_8 : decode (pg_code 17) 8 = .ok (.getfield 11, 3) := by decide +kernel
theorem d17_11 : decode (pg_code 17) 11 = .ok (.iload_n 1, 1) := by decide +kernel
theorem d17_12 : decode (pg_code 17) 12 = .ok (.aaload, 1) := by decide +kernel
theorem d17_13 : decode (pg_code 17) 13 = .ok (.iload_n 2, 1) := by decide +kernel
theorem d17_14 : decode (pg_code 17) 14 = .ok (.invokevirtual 59, 3) := by decide +kernel
theorem d17_17 : decode (pg_code 17) 17 = .ok (.ifCond .ne 5, 3) := by decide +kernel
theorem d17_20 : decode (pg_code 17) 20 = .ok (.iconst (-1), 1) := by decide +kernel
theorem d17_21 : decode (pg_code 17) 21 = .ok (.ireturn, 1) := by decide +kernel
theorem e17 {b1 b2 b3 : Value} : am_Call L xs d 17 [b1, b2, b3] σ Q = am_Rn L xs d 17 0 [b1, b2, b3] [] σ Q := rfl
theorem r17_0  : am_Rn L xs d 17 0 ls st σ Q = am_li ls 1 (fun x => am_Rn L xs d 17 1 ls (.int x :: st) σ Q) := am_r_iload_n d17_0
theorem r17_1 {a1 : Value} : am_Rn L xs (d + 1) 17 1 ls (a1 :: st) σ Q = ((st.length ≤ 4 ∧ am_ok a1 = true) ∧ am_Call L xs d 8 [a1] σ (fun r σ1 => am_Rn L xs (d + 1) 17 4 ls (r.toList ++ st) σ1 Q)) := am_R_static1 d17_1 rfl ⟨by decide, rfl⟩ rfl (by decide)
theorem r17_4 {a : Int32} : am_Rn L xs d 17 4 ls (.int a :: st) σ Q = if a = 0 then am_Rn L xs d 17 20 ls st σ Q else am_Rn L xs d 17 7 ls st σ Q := (am_r_if (t := 20) d17_4 (by decide)).trans (am_ite _ _ trivial (by simp only [am_cond, decide_eq_true_eq]))
theorem r17_7  : am_Rn L xs d 17 7 ls st σ Q = am_la ls 0 (fun x => am_Rn L xs d 17 8 ls (x :: st) σ Q) := am_r_aload_n d17_7
theorem r17_8 {p : Nat} : am_Rn L xs d 17 8 ls (.ref p :: st) σ Q = am_fd σ p 0 0 (fun v => am_Rn L xs d 17 11 ls (v :: st) σ Q) := am_r_getfield d17_8 rfl
theorem r17_11  : am_Rn L xs d 17 11 ls st σ Q = am_li ls 1 (fun x => am_Rn L xs d 17 12 ls (.int x :: st) σ Q) := am_r_iload_n d17_11
theorem r17_12 {p : Nat} {i : Int32} : am_Rn L xs d 17 12 ls (.int i :: .ref p :: st) σ Q = am_ar2 σ p i (fun q => am_Rn L xs d 17 13 ls (.ref q :: st) σ Q) := am_r_aaload d17_12
theorem r17_13  : am_Rn L xs d 17 13 ls st σ Q = am_li ls 2 (fun x => am_Rn L xs d 17 14 ls (.int x :: st) σ Q) := am_r_iload_n d17_13
theorem r17_14 {a1 : Value} {p : Nat} : am_Rn L xs (d + 1) 17 14 ls (a1 :: .ref p :: st) σ Q = ((am_oc σ p = 1 ∧ st.length ≤ 4 ∧ am_ok a1 = true) ∧ am_Call L xs d 9 [.ref p, a1] σ (fun r σ1 => am_Rn L xs (d + 1) 17 17 ls (r.toList ++ st) σ1 Q)) := am_R_virtual1 d17_14 rfl ⟨by decide, rfl⟩ rfl rfl (by decide)
theorem r17_17 {a : Int32} : am_Rn L xs d 17 17 ls (.int a :: st) σ Q = if ¬ a = 0 then am_Rn L xs d 17 22 ls st σ Q else am_Rn L xs d 17 20 ls st σ Q := (am_r_if (t := 22) d17_17 (by decide)).trans (am_ite _ _ trivial (by simp only [am_cond, decide_eq_true_eq]))
theorem r17_20  : am_Rn L xs d 17 20 ls st σ Q = am_Rn L xs d 17 21 ls (.int (-1) :: st) σ Q := am_r_iconst d17_20 (by decide)
theorem r17_21 {v : Int32} : am_Rn L xs d 17 21 ls [.int v] σ Q = Q (some (.int v)) σ := am_r_ireturn d17_21 rfl
theorem d19_0 : decode (pg_code 19) 0 = .ok (.iload_n 1, 1) := by decide +kernel
theorem d19_1 : decode (pg_code 19) 1 = .ok (.invokestatic 51, 3) := by decide +kernel
theorem d19_4 : decode (pg_code 19) 4 = .ok (.ifCond .eq 36, 3) := by decide +kernel
theorem d19_7 : decode (pg_code 19) 7 = .ok (.iload_n 3, 1) := by decide +kernel
theorem d19_8 : decode (pg_code 19) 8 = .ok (.invokestatic 51, 3) := by decide +kernel
theorem d19_11 : decode (pg_code 19) 11 = .ok (.ifCond .eq 29, 3) := by decide +kernel
theorem d19_14 : decode (pg_code 19) 14 = .ok (.aload_n 0, 1) := by decide +kernel
theorem d19_15 : decode (pg_code 19) 15 = .ok (.getfield 11, 3) := by decide +kernel
theorem d19_18 : decode (pg_code 19) 18 = .ok (.iload_n 1, 1) := by decide +kernel
theorem d19_19 : decode (pg_code 19) 19 = .ok (.aaload, 1) := by decide +kernel
theorem d19_20 : decode (pg_code 19) 20 = .ok (.iload_n 2, 1) := by decide +kernel
theorem d19_21 : decode (pg_code 19) 21 = .ok (.aload_n 0, 1) := by decide +kernel
theorem d19_22 : decode (pg_code 19) 22 = .ok (.getfield 11, 3) := by decide +kernel
theorem d19_25 : decode (pg_code 19) 25 = .ok (.iload_n 3, 1) := by decide +kernel
theorem d19_26 : decode (pg_code 19) 26 = .ok (.aaload, 1) := by decide +kernel
theorem d19_27 : decode (pg_code 19) 27 = .ok (.iload 4, 2) := by decide +kernel
theorem d19_29 : decode (pg_code 19) 29 = .ok (.iconst 0, 1) := by decide +kernel
theorem d19_30 : decode (pg_code 19) 30 = .ok (.invokestatic 84, 3) := by decide +kernel
theorem d19_33 : decode (pg_code 19) 33 = .ok (.ifCond .eq 7, 3) := by decide +kernel
theorem d19_36 : decode (pg_code 19) 36 = .ok (.iconst 1, 1) := by decide +kernel
theorem d19_37 : decode (pg_code 19) 37 = .ok (.goto 4, 3) := by decide +kernel
theorem d19_40 : decode (pg_code 19) 40 = .ok (.iconst 0, 1) := by decide +kernel
theorem d19_41 : decode (pg_code 19) 41 = .ok (.ireturn, 1) := by decide +kernel
theorem e19 {b1 b2 b3 b4 b5 : Value} : am_Call L xs d 19 [b1, b2, b3, b4, b5] σ Q = am_Rn L xs d 19 0 [b1, b2, b3, b4, b5] [] σ Q := rfl
theorem r19_0  : am_Rn L xs d 19 0 ls st σ Q = am_li ls 1 (fun x => am_Rn L xs d 19 1 ls (.int x :: st) σ Q) := am_r_iload_n d19_0
theorem r19_1 {a1 : Value} : am_Rn L xs (d + 1) 19 1 ls (a1 :: st) σ Q = ((st.length ≤ 4 ∧ am_ok a1 = true) ∧ am_Call L xs d 8 [a1] σ (fun r σ1 => am_Rn L xs (d + 1) 19 4 ls (r.toList ++ st) σ1 Q)) := am_R_static1 d19_1 rfl ⟨by decide, rfl⟩ rfl (by decide)
theorem r19_4 {a : Int32} : am_Rn L xs d 19 4 ls (.int a :: st) σ Q = if a = 0 then am_Rn L xs d 19 40 ls st σ Q else am_Rn L xs d 19 7 ls st σ Q := (am_r_if (t := 40) d19_4 (by decide)).trans (am_ite _ _ trivial (by simp only [am_cond, decide_eq_true_eq]))
theorem r19_7  : am_Rn L xs d 19 7 ls st σ Q = am_li ls 3 (fun x => am_Rn L xs d 19 8 ls (.int x :: st) σ Q) := am_r_iload_n d19_7
theorem r19_8 {a1 : Value} : am_Rn L xs (d + 1) 19 8 ls (a1 :: st) σ Q = ((st.length ≤ 4 ∧ am_ok a1 = true) ∧ am_Call L xs d 8 [a1] σ (fun r σ1 => am_Rn L xs (d + 1) 19 11 ls (r.toList ++ st) σ1 Q)) := am_R_static1 d19_8 rfl ⟨by decide, rfl⟩ rfl (by decide)
theorem r19_11 {a : Int32} : am_Rn L xs d 19 11 ls (.int a :: st) σ Q = if a = 0 then am_Rn L xs d 19 40 ls st σ Q else am_Rn L xs d 19 14 ls st σ Q := (am_r_if (t := 40) d19_11 (by decide)).trans (am_ite _ _ trivial (by simp only [am_cond, decide_eq_true_eq]))
theorem r19_14  : am_Rn L xs d 19 14 ls st σ Q = am_la ls 0 (fun x => am_Rn L xs d 19 15 ls (x :: st) σ Q) := am_r_aload_n d19_14
theorem r19_15 {p : Nat} : am_Rn L xs d 19 15 ls (.ref p :: st) σ Q = am_fd σ p 0 0 (fun v => am_Rn L xs d 19 18 ls (v :: st) σ Q) := am_r_getfield d19_15 rfl
theorem r19_18  : am_Rn L xs d 19 18 ls st σ Q = am_li ls 1 (fun x => am_Rn L xs d 19 19 ls (.int x :: st) σ Q) := am_r_iload_n d19_18
theorem r19_19 {p : Nat} {i : Int32} : am_Rn L xs d 19 19 ls (.int i :: .ref p :: st) σ Q = am_ar2 σ p i (fun q => am_Rn L xs d 19 20 ls (.ref q :: st) σ Q) := am_r_aaload d19_19
theorem r19_20  : am_Rn L xs d 19 20 ls st σ Q = am_li ls 2 (fun x => am_Rn L xs d 19 21 ls (.int x :: st) σ Q) := am_r_iload_n d19_20
theorem r19_21  : am_Rn L xs d 19 21 ls st σ Q = am_la ls 0 (fun x => am_Rn L xs d 19 22 ls (x :: st) σ Q) := am_r_aload_n d19_21
theorem r19_22 {p : Nat} : am_Rn L xs d 19 22 ls (.ref p :: st) σ Q = am_fd σ p 0 0 (fun v => am_Rn L xs d 19 25 ls (v :: st) σ Q) := am_r_getfield d19_22 rfl
theorem r19_25  : am_Rn L xs d 19 25 ls st σ Q = am_li ls 3 (fun x => am_Rn L xs d 19 26 ls (.int x :: st) σ Q) := am_r_iload_n d19_25
theorem r19_26 {p : Nat} {i : Int32} : am_Rn L xs d 19 26 ls (.int i :: .ref p :: st) σ Q = am_ar2 σ p i (fun q => am_Rn L xs d 19 27 ls (.ref q :: st) σ Q) := am_r_aaload d19_26
theorem r19_27  : am_Rn L xs d 19 27 ls st σ Q = am_li ls 4 (fun x => am_Rn L xs d 19 29 ls (.int x :: st) σ Q) := am_r_iload d19_27
theorem r19_29  : am_Rn L xs d 19 29 ls st σ Q = am_Rn L xs d 19 30 ls (.int 0 :: st) σ Q := am_r_iconst d19_29 (by decide)
theorem r19_30 {a1 a2 a3 a4 a5 : Value} : am_Rn L xs (d + 1) 19 30 ls (a5 :: a4 :: a3 :: a2 :: a1 :: st) σ Q = ((st.length ≤ 4 ∧ am_ok a1 = true ∧ am_ok a2 = true ∧ am_ok a3 = true ∧ am_ok a4 = true ∧ am_ok a5 = true) ∧ am_Call L xs d 20 [a1, a2, a3, a4, a5] σ (fun r σ1 => am_Rn L xs (d + 1) 19 33 ls (r.toList ++ st) σ1 Q)) := am_R_static5 d19_30 rfl ⟨by decide, rfl⟩ rfl (by decide)
theorem r19_33 {a : Int32} : am_Rn L xs d 19 33 ls (.int a :: st) σ Q = if a = 0 then am_Rn L xs d 19 40 ls st σ Q else am_Rn L xs d 19 36 ls st σ Q := (am_r_if (t := 40) d19_33 (by decide)).trans (am_ite _ _ trivial (by simp only [am_cond, decide_eq_true_eq]))
theorem r19_36  : am_Rn L xs d 19 36 ls st σ Q = am_Rn L xs d 19 37 ls (.int 1 :: st) σ Q := am_r_iconst d19_36 (by decide)
theorem r19_37  : am_Rn L xs d 19 37 ls st σ Q = am_Rn L xs d 19 41 ls st σ Q := am_r_goto d19_37 (by decide)
theorem r19_40  : am_Rn L xs d 19 40 ls st σ Q = am_Rn L xs d 19 41 ls (.int 0 :: st) σ Q := am_r_iconst d19_40 (by decide)
theorem r19_41 {v : Int32} (hv : v = 0 ∨ v = 1) : am_Rn L xs d 19 41 ls [.int v] σ Q = Q (some (.int v)) σ := am_r_zreturn d19_41 rfl hv
theorem d21_0 : decode (pg_code 21) 0 = .ok (.aload_n 0, 1) := by decide +kernel
theorem d21_1 : decode (pg_code 21) 1 = .ok (.iload_n 1, 1) := by decide +kernel
theorem d21_2 : decode (pg_code 21) 2 = .ok (.invokevirtual 88, 3) := by decide +kernel
theorem d21_5 : decode (pg_code 21) 5 = .ok (.ifCond .eq 11, 3) := by decide +kernel
theorem d21_16 : decode (pg_code 21) 16 = .ok (.iconst (-1), 1) := by decide +kernel
theorem d21_17 : decode (pg_code 21) 17 = .ok (.ireturn, 1) := by decide +kernel
theorem e21 {b1 b2 b3 : Value} : am_Call L xs d 21 [b1, b2, b3] σ Q = am_Rn L xs d 21 0 [b1, b2, b3] [] σ Q := rfl
theorem r21_0  : am_Rn L xs d 21 0 ls st σ Q = am_la ls 0 (fun x => am_Rn L xs d 21 1 ls (x :: st) σ Q) := am_r_aload_n d21_0
theorem r21_1  : am_Rn L xs d 21 1 ls st σ Q = am_li ls 1 (fun x => am_Rn L xs d 21 2 ls (.int x :: st) σ Q) := am_r_iload_n d21_1
theorem r21_2 {a1 : Value} {p : Nat} : am_Rn L xs (d + 1) 21 2 ls (a1 :: .ref p :: st) σ Q = ((am_oc σ p = 0 ∧ st.length ≤ 4 ∧ am_ok a1 = true) ∧ am_Call L xs d 22 [.ref p, a1] σ (fun r σ1 => am_Rn L xs (d + 1) 21 5 ls (r.toList ++ st) σ1 Q)) := am_R_virtual1 d21_2 rfl ⟨by decide, rfl⟩ rfl rfl (by decide)
theorem r21_5 {a : Int32} : am_Rn L xs d 21 5 ls (.int a :: st) σ Q = if a = 0 then am_Rn L xs d 21 16 ls st σ Q else am_Rn L xs d 21 8 ls st σ Q := (am_r_if (t := 16) d21_5 (by decide)).trans (am_ite _ _ trivial (by simp only [am_cond, decide_eq_true_eq]))
theorem r21_16  : am_Rn L xs d 21 16 ls st σ Q = am_Rn L xs d 21 17 ls (.int (-1) :: st) σ Q := am_r_iconst d21_16 (by decide)
theorem r21_17 {v : Int32} : am_Rn L xs d 21 17 ls [.int v] σ Q = Q (some (.int v)) σ := am_r_ireturn d21_17 rfl
theorem d22_0 : decode (pg_code 22) 0 = .ok (.iload_n 1, 1) := by decide +kernel
theorem d22_1 : decode (pg_code 22) 1 = .ok (.invokestatic 51, 3) := by decide +kernel
theorem d22_4 : decode (pg_code 22) 4 = .ok (.ifCond .eq 19, 3) := by decide +kernel
theorem d22_7 : decode (pg_code 22) 7 = .ok (.aload_n 0, 1) := by decide +kernel
theorem d22_8 : decode (pg_code 22) 8 = .ok (.getfield 11, 3) := by decide +kernel
theorem d22_11 : decode (pg_code 22) 11 = .ok (.iload_n 1, 1) := by decide +kernel
theorem d22_12 : decode (pg_code 22) 12 = .ok (.aaload, 1) := by decide +kernel
theorem d22_13 : decode (pg_code 22) 13 = .ok (.getfield 55, 3) := by decide +kernel
theorem d22_16 : decode (pg_code 22) 16 = .ok (.ifCond .le 7, 3) := by decide +kernel
theorem d22_19 : decode (pg_code 22) 19 = .ok (.iconst 1, 1) := by decide +kernel
theorem d22_20 : decode (pg_code 22) 20 = .ok (.goto 4, 3) := by decide +kernel
theorem d22_23 : decode (pg_code 22) 23 = .ok (.iconst 0, 1) := by decide +kernel
theorem d22_24 : decode (pg_code 22) 24 = .ok (.ireturn, 1) := by decide +kernel
theorem e22 {b1 b2 : Value} : am_Call L xs d 22 [b1, b2] σ Q = am_Rn L xs d 22 0 [b1, b2] [] σ Q := rfl
theorem r22_0  : am_Rn L xs d 22 0 ls st σ Q = am_li ls 1 (fun x => am_Rn L xs d 22 1 ls (.int x :: st) σ Q) := am_r_iload_n d22_0
theorem r22_1 {a1 : Value} : am_Rn L xs (d + 1) 22 1 ls (a1 :: st) σ Q = ((st.length ≤ 4 ∧ am_ok a1 = true) ∧ am_Call L xs d 8 [a1] σ (fun r σ1 => am_Rn L xs (d + 1) 22 4 ls (r.toList ++ st) σ1 Q)) := am_R_static1 d22_1 rfl ⟨by decide, rfl⟩ rfl (by decide)
theorem r22_4 {a : Int32} : am_Rn L xs d 22 4 ls (.int a :: st) σ Q = if a = 0 then am_Rn L xs d 22 23 ls st σ Q else am_Rn L xs d 22 7 ls st σ Q := (am_r_if (t := 23) d22_4 (by decide)).trans (am_ite _ _ trivial (by simp only [am_cond, decide_eq_true_eq]))
theorem r22_7  : am_Rn L xs d 22 7 ls st σ Q = am_la ls 0 (fun x => am_Rn L xs d 22 8 ls (x :: st) σ Q) := am_r_aload_n d22_7
theorem r22_8 {p : Nat} : am_Rn L xs d 22 8 ls (.ref p :: st) σ Q = am_fd σ p 0 0 (fun v => am_Rn L xs d 22 11 ls (v :: st) σ Q) := am_r_getfield d22_8 rfl
theorem r22_11  : am_Rn L xs d 22 11 ls st σ Q = am_li ls 1 (fun x => am_Rn L xs d 22 12 ls (.int x :: st) σ Q) := am_r_iload_n d22_11
theorem r22_12 {p : Nat} {i : Int32} : am_Rn L xs d 22 12 ls (.int i :: .ref p :: st) σ Q = am_ar2 σ p i (fun q => am_Rn L xs d 22 13 ls (.ref q :: st) σ Q) := am_r_aaload d22_12
theorem r22_13 {p : Nat} : am_Rn L xs d 22 13 ls (.ref p :: st) σ Q = am_fd σ p 1 4 (fun v => am_Rn L xs d 22 16 ls (v :: st) σ Q) := am_r_getfield d22_13 rfl
theorem r22_16 {a : Int32} : am_Rn L xs d 22 16 ls (.int a :: st) σ Q = if a ≤ 0 then am_Rn L xs d 22 23 ls st σ Q else am_Rn L xs d 22 19 ls st σ Q := (am_r_if (t := 23) d22_16 (by decide)).trans (am_ite _ _ trivial (by simp only [am_cond, decide_eq_true_eq]))
theorem r22_19  : am_Rn L xs d 22 19 ls st σ Q = am_Rn L xs d 22 20 ls (.int 1 :: st) σ Q := am_r_iconst d22_19 (by decide)
theorem r22_20  : am_Rn L xs d 22 20 ls st σ Q = am_Rn L xs d 22 24 ls st σ Q := am_r_goto d22_20 (by decide)
theorem r22_23  : am_Rn L xs d 22 23 ls st σ Q = am_Rn L xs d 22 24 ls (.int 0 :: st) σ Q := am_r_iconst d22_23 (by decide)
theorem r22_24 {v : Int32} (hv : v = 0 ∨ v = 1) : am_Rn L xs d 22 24 ls [.int v] σ Q = Q (some (.int v)) σ := am_r_zreturn d22_24 rfl hv
theorem d56_0 : decode (pg_code 56) 0 = .ok (.aload_n 0, 1) := by decide +kernel
theorem d56_1 : decode (pg_code 56) 1 = .ok (.getfield 44, 3) := by decide +kernel
theorem d56_4 : decode (pg_code 56) 4 = .ok (.ifCond .eq 28, 3) := by decide +kernel
theorem d56_32 : decode (pg_code 56) 32 = .ok (.iconst (-1), 1) := by decide +kernel
theorem d56_33 : decode (pg_code 56) 33 = .ok (.ireturn, 1) := by decide +kernel
theorem e56 {b1 b2 : Value} : am_Call L xs d 56 [b1, b2] σ Q = am_Rn L xs d 56 0 [b1, b2] [] σ Q := rfl
theorem r56_0  : am_Rn L xs d 56 0 ls st σ Q = am_la ls 0 (fun x => am_Rn L xs d 56 1 ls (x :: st) σ Q) := am_r_aload_n d56_0
theorem r56_1 {p : Nat} : am_Rn L xs d 56 1 ls (.ref p :: st) σ Q = am_fd σ p 0 6 (fun v => am_Rn L xs d 56 4 ls (v :: st) σ Q) := am_r_getfield d56_1 rfl
theorem r56_4 {a : Int32} : am_Rn L xs d 56 4 ls (.int a :: st) σ Q = if a = 0 then am_Rn L xs d 56 32 ls st σ Q else am_Rn L xs d 56 7 ls st σ Q := (am_r_if (t := 32) d56_4 (by decide)).trans (am_ite _ _ trivial (by simp only [am_cond, decide_eq_true_eq]))
theorem r56_32  : am_Rn L xs d 56 32 ls st σ Q = am_Rn L xs d 56 33 ls (.int (-1) :: st) σ Q := am_r_iconst d56_32 (by decide)
theorem r56_33 {v : Int32} : am_Rn L xs d 56 33 ls [.int v] σ Q = Q (some (.int v)) σ := am_r_ireturn d56_33 rfl
theorem d57_0 : decode (pg_code 57) 0 = .ok (.aload_n 0, 1) := by decide +kernel
theorem d57_1 : decode (pg_code 57) 1 = .ok (.getfield 44, 3) := by decide +kernel
theorem d57_4 : decode (pg_code 57) 4 = .ok (.ifCond .eq 31, 3) := by decide +kernel
theorem d57_35 : decode (pg_code 57) 35 = .ok (.bipush (-2), 2) := by decide +kernel
theorem d57_37 : decode (pg_code 57) 37 = .ok (.ireturn, 1) := by decide +kernel
theorem e57 {b1 b2 b3 : Value} : am_Call L xs d 57 [b1, b2, b3] σ Q = am_Rn L xs d 57 0 [b1, b2, b3] [] σ Q := rfl
theorem r57_0  : am_Rn L xs d 57 0 ls st σ Q = am_la ls 0 (fun x => am_Rn L xs d 57 1 ls (x :: st) σ Q) := am_r_aload_n d57_0
theorem r57_1 {p : Nat} : am_Rn L xs d 57 1 ls (.ref p :: st) σ Q = am_fd σ p 0 6 (fun v => am_Rn L xs d 57 4 ls (v :: st) σ Q) := am_r_getfield d57_1 rfl
theorem r57_4 {a : Int32} : am_Rn L xs d 57 4 ls (.int a :: st) σ Q = if a = 0 then am_Rn L xs d 57 35 ls st σ Q else am_Rn L xs d 57 7 ls st σ Q := (am_r_if (t := 35) d57_4 (by decide)).trans (am_ite _ _ trivial (by simp only [am_cond, decide_eq_true_eq]))
theorem r57_35  : am_Rn L xs d 57 35 ls st σ Q = am_Rn L xs d 57 37 ls (.int (-2) :: st) σ Q := am_r_bipush d57_35 (by decide)
theorem r57_37 {v : Int32} : am_Rn L xs d 57 37 ls [.int v] σ Q = Q (some (.int v)) σ := am_r_ireturn d57_37 rfl
theorem d59_0 : decode (pg_code 59) 0 = .ok (.aload_n 0, 1) := by decide +kernel
theorem d59_1 : decode (pg_code 59) 1 = .ok (.getfield 44, 3) := by decide +kernel
theorem d59_4 : decode (pg_code 59) 4 = .ok (.ifCond .eq 17, 3) := by decide +kernel
theorem d59_21 : decode (pg_code 59) 21 = .ok (.iconst 0, 1) := by decide +kernel
theorem d59_22 : decode (pg_code 59) 22 = .ok (.ireturn, 1) := by decide +kernel
theorem e59 {b1 b2 : Value} : am_Call L xs d 59 [b1, b2] σ Q = am_Rn L xs d 59 0 [b1, b2] [] σ Q := rfl
theorem r59_0  : am_Rn L xs d 59 0 ls st σ Q = am_la ls 0 (fun x => am_Rn L xs d 59 1 ls (x :: st) σ Q) := am_r_aload_n d59_0
theorem r59_1 {p : Nat} : am_Rn L xs d 59 1 ls (.ref p :: st) σ Q = am_fd σ p 0 6 (fun v => am_Rn L xs d 59 4 ls (v :: st) σ Q) := am_r_getfield d59_1 rfl
theorem r59_4 {a : Int32} : am_Rn L xs d 59 4 ls (.int a :: st) σ Q = if a = 0 then am_Rn L xs d 59 21 ls st σ Q else am_Rn L xs d 59 7 ls st σ Q := (am_r_if (t := 21) d59_4 (by decide)).trans (am_ite _ _ trivial (by simp only [am_cond, decide_eq_true_eq]))
theorem r59_21  : am_Rn L xs d 59 21 ls st σ Q = am_Rn L xs d 59 22 ls (.int 0 :: st) σ Q := am_r_iconst d59_21 (by decide)
theorem r59_22 {v : Int32} : am_Rn L xs d 59 22 ls [.int v] σ Q = Q (some (.int v)) σ := am_r_ireturn d59_22 rfl
theorem d61_0 : decode (pg_code 61) 0 = .ok (.aload_n 0, 1) := by decide +kernel
theorem d61_1 : decode (pg_code 61) 1 = .ok (.getfield 44, 3) := by decide +kernel
theorem d61_4 : decode (pg_code 61) 4 = .ok (.ifCond .eq 21, 3) := by decide +kernel
theorem d61_25 : decode (pg_code 61) 25 = .ok (.iconst (-1), 1) := by decide +kernel
theorem d61_26 : decode (pg_code 61) 26 = .ok (.ireturn, 1) := by decide +kernel
theorem e61 {b1 b2 : Value} : am_Call L xs d 61 [b1, b2] σ Q = am_Rn L xs d 61 0 [b1, b2] [] σ Q := rfl
theorem r61_0  : am_Rn L xs d 61 0 ls st σ Q = am_la ls 0 (fun x => am_Rn L xs d 61 1 ls (x :: st) σ Q) := am_r_aload_n d61_0
theorem r61_1 {p : Nat} : am_Rn L xs d 61 1 ls (.ref p :: st) σ Q = am_fd σ p 0 6 (fun v => am_Rn L xs d 61 4 ls (v :: st) σ Q) := am_r_getfield d61_1 rfl
theorem r61_4 {a : Int32} : am_Rn L xs d 61 4 ls (.int a :: st) σ Q = if a = 0 then am_Rn L xs d 61 25 ls st σ Q else am_Rn L xs d 61 7 ls st σ Q := (am_r_if (t := 25) d61_4 (by decide)).trans (am_ite _ _ trivial (by simp only [am_cond, decide_eq_true_eq]))
theorem r61_25  : am_Rn L xs d 61 25 ls st σ Q = am_Rn L xs d 61 26 ls (.int (-1) :: st) σ Q := am_r_iconst d61_25 (by decide)
theorem r61_26 {v : Int32} : am_Rn L xs d 61 26 ls [.int v] σ Q = Q (some (.int v)) σ := am_r_ireturn d61_26 rfl
theorem d67_0 : decode (pg_code 67) 0 = .ok (.aload_n 0, 1) := by decide +kernel
theorem d67_1 : decode (pg_code 67) 1 = .ok (.iconst 0, 1) := by decide +kernel
theorem d67_2 : decode (pg_code 67) 2 = .ok (.invokevirtual 88, 3) := by decide +kernel
theorem d67_5 : decode (pg_code 67) 5 = .ok (.ifCond .eq 19, 3) := by decide +kernel
theorem d67_24 : decode (pg_code 67) 24 = .ok (.iconst (-1), 1) := by decide +kernel
theorem d67_25 : decode (pg_code 67) 25 = .ok (.ireturn, 1) := by decide +kernel
theorem e67 {b1 : Value} : am_Call L xs d 67 [b1] σ Q = am_Rn L xs d 67 0 [b1, .retAddr 0] [] σ Q := rfl
theorem r67_0  : am_Rn L xs d 67 0 ls st σ Q = am_la ls 0 (fun x => am_Rn L xs d 67 1 ls (x :: st) σ Q) := am_r_aload_n d67_0
theorem r67_1  : am_Rn L xs d 67 1 ls st σ Q = am_Rn L xs d 67 2 ls (.int 0 :: st) σ Q := am_r_iconst d67_1 (by decide)
theorem r67_2 {a1 : Value} {p : Nat} : am_Rn L xs (d + 1) 67 2 ls (a1 :: .ref p :: st) σ Q = ((am_oc σ p = 0 ∧ st.length ≤ 4 ∧ am_ok a1 = true) ∧ am_Call L xs d 22 [.ref p, a1] σ (fun r σ1 => am_Rn L xs (d + 1) 67 5 ls (r.toList ++ st) σ1 Q)) := am_R_virtual1 d67_2 rfl ⟨by decide, rfl⟩ rfl rfl (by decide)
theorem r67_5 {a : Int32} : am_Rn L xs d 67 5 ls (.int a :: st) σ Q = if a = 0 then am_Rn L xs d 67 24 ls st σ Q else am_Rn L xs d 67 8 ls st σ Q := (am_r_if (t := 24) d67_5 (by decide)).trans (am_ite _ _ trivial (by simp only [am_cond, decide_eq_true_eq]))
theorem r67_24  : am_Rn L xs d 67 24 ls st σ Q = am_Rn L xs d 67 25 ls (.int (-1) :: st) σ Q := am_r_iconst d67_24 (by decide)
theorem r67_25 {v : Int32} : am_Rn L xs d 67 25 ls [.int v] σ Q = Q (some (.int v)) σ := am_r_ireturn d67_25 rfl
theorem d81_0 : decode (pg_code 81) 0 = .ok (.aload_n 0, 1) := by decide +kernel
theorem d81_1 : decode (pg_code 81) 1 = .ok (.getfield 48, 3) := by decide +kernel
theorem d81_4 : decode (pg_code 81) 4 = .ok (.ifCond .eq 14, 3) := by decide +kernel
theorem d81_18 : decode (pg_code 81) 18 = .ok (.bipush (-2), 2) := by decide +kernel
theorem d81_20 : decode (pg_code 81) 20 = .ok (.ireturn, 1) := by decide +kernel
theorem e81 {b1 b2 b3 : Value} : am_Call L xs d 81 [b1, b2, b3] σ Q = am_Rn L xs d 81 0 [b1, b2, b3] [] σ Q := rfl
theorem r81_0  : am_Rn L xs d 81 0 ls st σ Q = am_la ls 0 (fun x => am_Rn L xs d 81 1 ls (x :: st) σ Q) := am_r_aload_n d81_0
theorem r81_1 {p : Nat} : am_Rn L xs d 81 1 ls (.ref p :: st) σ Q = am_fd σ p 0 7 (fun v => am_Rn L xs d 81 4 ls (v :: st) σ Q) := am_r_getfield d81_1 rfl
theorem r81_4 {a : Int32} : am_Rn L xs d 81 4 ls (.int a :: st) σ Q = if a = 0 then am_Rn L xs d 81 18 ls st σ Q else am_Rn L xs d 81 7 ls st σ Q := (am_r_if (t := 18) d81_4 (by decide)).trans (am_ite _ _ trivial (by simp only [am_cond, decide_eq_true_eq]))
theorem r81_18  : am_Rn L xs d 81 18 ls st σ Q = am_Rn L xs d 81 20 ls (.int (-2) :: st) σ Q := am_r_bipush d81_18 (by decide)
theorem r81_20 {v : Int32} : am_Rn L xs d 81 20 ls [.int v] σ Q = Q (some (.int v)) σ := am_r_ireturn d81_20 rfl
theorem d82_0 : decode (pg_code 82) 0 = .ok (.aload_n 0, 1) := by decide +kernel
theorem d82_1 : decode (pg_code 82) 1 = .ok (.getfield 48, 3) := by decide +kernel
theorem d82_4 : decode (pg_code 82) 4 = .ok (.ifCond .eq 53, 3) := by decide +kernel
theorem d82_57 : decode (pg_code 82) 57 = .ok (.iconst 0, 1) := by decide +kernel
theorem d82_58 : decode (pg_code 82) 58 = .ok (.ireturn, 1) := by decide +kernel
theorem e82 {b1 b2 : Value} : am_Call L xs d 82 [b1, b2] σ Q = am_Rn L xs d 82 0 [b1, b2] [] σ Q := rfl
theorem r82_0  : am_Rn L xs d 82 0 ls st σ Q = am_la ls 0 (fun x => am_Rn L xs d 82 1 ls (x :: st) σ Q) := am_r_aload_n d82_0
theorem r82_1 {p : Nat} : am_Rn L xs d 82 1 ls (.ref p :: st) σ Q = am_fd σ p 0 7 (fun v => am_Rn L xs d 82 4 ls (v :: st) σ Q) := am_r_getfield d82_1 rfl
theorem r82_4 {a : Int32} : am_Rn L xs d 82 4 ls (.int a :: st) σ Q = if a = 0 then am_Rn L xs d 82 57 ls st σ Q else am_Rn L xs d 82 7 ls st σ Q := (am_r_if (t := 57) d82_4 (by decide)).trans (am_ite _ _ trivial (by simp only [am_cond, decide_eq_true_eq]))
theorem r82_57  : am_Rn L xs d 82 57 ls st σ Q = am_Rn L xs d 82 58 ls (.int 0 :: st) σ Q := am_r_iconst d82_57 (by decide)
theorem r82_58 {v : Int32} (hv : v = 0 ∨ v = 1) : am_Rn L xs d 82 58 ls [.int v] σ Q = Q (some (.int v)) σ := am_r_zreturn d82_58 rfl hv
end
