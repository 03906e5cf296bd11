/-! Rows of the program's instructions, written by program (wip/gen/gen_rows.py) -/
section
variable {L : Nat} {xs : Nat → Int32} {d : Nat} {ls st : List Value} {σ : am_S} {Q : Option Value → am_S → Prop}
theorem d84_0 : decode (pg_code 84) 0 = .ok (.iload_n 1, 1) := by decide +kernel
theorem d84_1 : decode (pg_code 84) 1 = .ok (.invokestatic 113, 3) := by decide +kernel
theorem d84_4 : decode (pg_code 84) 4 = .ok (.ifCond .eq 24, 3) := by decide +kernel
theorem d84_7 : decode (pg_code 84) 7 = .ok (.iload_n 3, 1) := by decide +kernel
theorem d84_8 : decode (pg_code 84) 8 = .ok (.ifCond .lt 20, 3) := by decide +kernel
theorem d84_11 : decode (pg_code 84) 11 = .ok (.iload_n 3, 1) := by decide +kernel
theorem d84_12 : decode (pg_code 84) 12 = .ok (.bipush 7, 2) := by decide +kernel
theorem d84_14 : decode (pg_code 84) 14 = .ok (.if_icmp .gt 14, 3) := by decide +kernel
theorem d84_17 : decode (pg_code 84) 17 = .ok (.aload_n 0, 1) := by decide +kernel
theorem d84_18 : decode (pg_code 84) 18 = .ok (.getfield 7, 3) := by decide +kernel
theorem d84_21 : decode (pg_code 84) 21 = .ok (.iload_n 1, 1) := by decide +kernel
theorem d84_22 : decode (pg_code 84) 22 = .ok (.iaload, 1) := by decide +kernel
theorem d84_23 : decode (pg_code 84) 23 = .ok (.bipush 12, 2) := by decide +kernel
theorem d84_25 : decode (pg_code 84) 25 = .ok (.if_icmp .ne 5, 3) := by decide +kernel
theorem d84_28 : decode (pg_code 84) 28 = .ok (.iconst (-1), 1) := by decide +kernel
theorem d84_29 : decode (pg_code 84) 29 = .ok (.ireturn, 1) := by decide +kernel
theorem d84_30 : decode (pg_code 84) 30 = .ok (.iload_n 2, 1) := by decide +kernel
theorem d84_31 : decode (pg_code 84) 31 = .ok (.iconst (-1), 1) := by decide +kernel
theorem d84_32 : decode (pg_code 84) 32 = .ok (.if_icmp .ne 15, 3) := by decide +kernel
theorem d84_35 : decode (pg_code 84) 35 = .ok (.aload_n 0, 1) := by decide +kernel
theorem d84_36 : decode (pg_code 84) 36 = .ok (.getfield 7, 3) := by decide +kernel
theorem d84_39 : decode (pg_code 84) 39 = .ok (.iload_n 1, 1) := by decide +kernel
theorem d84_40 : decode (pg_code 84) 40 = .ok (.iaload, 1) := by decide +kernel
theorem d84_41 : decode (pg_code 84) 41 = .ok (.ifCond .le 17, 3) := by decide +kernel
theorem d84_44 : decode (pg_code 84) 44 = .ok (.goto 12, 3) := by decide +kernel
theorem d84_47 : decode (pg_code 84) 47 = .ok (.aload_n 0, 1) := by decide +kernel
theorem d84_48 : decode (pg_code 84) 48 = .ok (.iload_n 1, 1) := by decide +kernel
theorem d84_49 : decode (pg_code 84) 49 = .ok (.iload_n 2, 1) := by decide +kernel
theorem d84_50 : decode (pg_code 84) 50 = .ok (.invokevirtual 117, 3) := by decide +kernel
theorem d84_53 : decode (pg_code 84) 53 = .ok (.ifCond .ne 5, 3) := by decide +kernel
theorem d84_56 : decode (pg_code 84) 56 = .ok (.iconst (-1), 1) := by decide +kernel
theorem d84_57 : decode (pg_code 84) 57 = .ok (.ireturn, 1) := by decide +kernel
theorem d84_58 : decode (pg_code 84) 58 = .ok (.bipush 12, 2) := by decide +kernel
theorem d84_60 : decode (pg_code 84) 60 = .ok (.iload_n 1, 1) := by decide +kernel
theorem d84_61 : decode (pg_code 84) 61 = .ok (.imul, 1) := by decide +kernel
theorem d84_62 : decode (pg_code 84) 62 = .ok (.aload_n 0, 1) := by decide +kernel
theorem d84_63 : decode (pg_code 84) 63 = .ok (.getfield 7, 3) := by decide +kernel
theorem d84_66 : decode (pg_code 84) 66 = .ok (.iload_n 1, 1) := by decide +kernel
theorem d84_67 : decode (pg_code 84) 67 = .ok (.iaload, 1) := by decide +kernel
theorem d84_68 : decode (pg_code 84) 68 = .ok (.iadd, 1) := by decide +kernel
theorem d84_69 : decode (pg_code 84) 69 = .ok (.istore 5, 2) := by decide +kernel
theorem d84_71 : decode (pg_code 84) 71 = .ok (.aload_n 0, 1) := by decide +kernel
theorem d84_72 : decode (pg_code 84) 72 = .ok (.getfield 13, 3) := by decide +kernel
theorem d84_75 : decode (pg_code 84) 75 = .ok (.iload 5, 2) := by decide +kernel
theorem d84_77 : decode (pg_code 84) 77 = .ok (.iload_n 2, 1) := by decide +kernel
theorem d84_78 : decode (pg_code 84) 78 = .ok (.iastore, 1) := by decide +kernel
theorem d84_79 : decode (pg_code 84) 79 = .ok (.aload_n 0, 1) := by decide +kernel
theorem d84_80 : decode (pg_code 84) 80 = .ok (.getfield 16, 3) := by decide +kernel
theorem d84_83 : decode (pg_code 84) 83 = .ok (.iload 5, 2) := by decide +kernel
theorem d84_85 : decode (pg_code 84) 85 = .ok (.iload_n 3, 1) := by decide +kernel
theorem d84_86 : decode (pg_code 84) 86 = .ok (.iastore, 1) := by decide +kernel
theorem d84_87 : decode (pg_code 84) 87 = .ok (.aload_n 0, 1) := by decide +kernel
theorem d84_88 : decode (pg_code 84) 88 = .ok (.getfield 19, 3) := by decide +kernel
theorem d84_91 : decode (pg_code 84) 91 = .ok (.iload 5, 2) := by decide +kernel
theorem d84_93 : decode (pg_code 84) 93 = .ok (.iload 4, 2) := by decide +kernel
theorem d84_95 : decode (pg_code 84) 95 = .ok (.iastore, 1) := by decide +kernel
theorem d84_96 : decode (pg_code 84) 96 = .ok (.aload_n 0, 1) := by decide +kernel
theorem d84_97 : decode (pg_code 84) 97 = .ok (.getfield 7, 3) := by decide +kernel
theorem d84_100 : decode (pg_code 84) 100 = .ok (.iload_n 1, 1) := by decide +kernel
theorem d84_101 : decode (pg_code 84) 101 = .ok (.dup2, 1) := by decide +kernel
theorem d84_102 : decode (pg_code 84) 102 = .ok (.iaload, 1) := by decide +kernel
theorem d84_103 : decode (pg_code 84) 103 = .ok (.iconst 1, 1) := by decide +kernel
theorem d84_104 : decode (pg_code 84) 104 = .ok (.iadd, 1) := by decide +kernel
theorem d84_105 : decode (pg_code 84) 105 = .ok (.iastore, 1) := by decide +kernel
theorem d84_106 : decode (pg_code 84) 106 = .ok (.aload_n 0, 1) := by decide +kernel
theorem d84_107 : decode (pg_code 84) 107 = .ok (.getfield 7, 3) := by decide +kernel
theorem d84_110 : decode (pg_code 84) 110 = .ok (.iload_n 1, 1) := by decide +kernel
theorem d84_111 : decode (pg_code 84) 111 = .ok (.iaload, 1) := by decide +kernel
theorem d84_112 : decode (pg_code 84) 112 = .ok (.iconst 1, 1) := by decide +kernel
theorem d84_113 : decode (pg_code 84) 113 = .ok (.isub, 1) := by decide +kernel
theorem d84_114 : decode (pg_code 84) 114 = .ok (.ireturn, 1) := by decide +kernel
theorem e84 {b1 b2 b3 b4 b5 : Value} : am_Call L xs d 84 [b1, b2, b3, b4, b5] σ Q = am_Rn L xs d 84 0 [b1, b2, b3, b4, b5, .retAddr 0] [] σ Q := rfl
theorem r84_0  : am_Rn L xs d 84 0 ls st σ Q = am_li ls 1 (fun x => am_Rn L xs d 84 1 ls (.int x :: st) σ Q) := am_r_iload_n d84_0
theorem r84_1 {a1 : Value} : am_Rn L xs (d + 1) 84 1 ls (a1 :: st) σ Q = ((st.length ≤ 4 ∧ am_ok a1 = true) ∧ am_Call L xs d 85 [a1] σ (fun r σ1 => am_Rn L xs (d + 1) 84 4 ls (r.toList ++ st) σ1 Q)) := am_R_static1 d84_1 rfl ⟨by decide, rfl⟩ rfl (by decide)
theorem r84_4 {a : Int32} : am_Rn L xs d 84 4 ls (.int a :: st) σ Q = if a = 0 then am_Rn L xs d 84 28 ls st σ Q else am_Rn L xs d 84 7 ls st σ Q := (am_r_if (t := 28) d84_4 (by decide)).trans (am_ite _ _ trivial (by simp only [am_cond, decide_eq_true_eq]))
theorem r84_7  : am_Rn L xs d 84 7 ls st σ Q = am_li ls 3 (fun x => am_Rn L xs d 84 8 ls (.int x :: st) σ Q) := am_r_iload_n d84_7
theorem r84_8 {a : Int32} : am_Rn L xs d 84 8 ls (.int a :: st) σ Q = if a < 0 then am_Rn L xs d 84 28 ls st σ Q else am_Rn L xs d 84 11 ls st σ Q := (am_r_if (t := 28) d84_8 (by decide)).trans (am_ite _ _ trivial (by simp only [am_cond, decide_eq_true_eq]))
theorem r84_11  : am_Rn L xs d 84 11 ls st σ Q = am_li ls 3 (fun x => am_Rn L xs d 84 12 ls (.int x :: st) σ Q) := am_r_iload_n d84_11
theorem r84_12  : am_Rn L xs d 84 12 ls st σ Q = am_Rn L xs d 84 14 ls (.int 7 :: st) σ Q := am_r_bipush d84_12 (by decide)
theorem r84_14 {a b : Int32} : am_Rn L xs d 84 14 ls (.int b :: .int a :: st) σ Q = if b < a then am_Rn L xs d 84 28 ls st σ Q else am_Rn L xs d 84 17 ls st σ Q := (am_r_icmp (t := 28) d84_14 (by decide)).trans (am_ite _ _ trivial (by simp only [am_cond, decide_eq_true_eq]))
theorem r84_17  : am_Rn L xs d 84 17 ls st σ Q = am_la ls 0 (fun x => am_Rn L xs d 84 18 ls (x :: st) σ Q) := am_r_aload_n d84_17
theorem r84_18 {p : Nat} : am_Rn L xs d 84 18 ls (.ref p :: st) σ Q = am_fd σ p 6 0 (fun v => am_Rn L xs d 84 21 ls (v :: st) σ Q) := am_r_getfield d84_18 rfl
theorem r84_21  : am_Rn L xs d 84 21 ls st σ Q = am_li ls 1 (fun x => am_Rn L xs d 84 22 ls (.int x :: st) σ Q) := am_r_iload_n d84_21
theorem r84_22 {p : Nat} {i : Int32} : am_Rn L xs d 84 22 ls (.int i :: .ref p :: st) σ Q = am_ai 0 σ p i (fun x => am_Rn L xs d 84 23 ls (.int x :: st) σ Q) := am_r_iaload d84_22
theorem r84_23  : am_Rn L xs d 84 23 ls st σ Q = am_Rn L xs d 84 25 ls (.int 12 :: st) σ Q := am_r_bipush d84_23 (by decide)
theorem r84_25 {a b : Int32} : am_Rn L xs d 84 25 ls (.int b :: .int a :: st) σ Q = if ¬ a = b then am_Rn L xs d 84 30 ls st σ Q else am_Rn L xs d 84 28 ls st σ Q := (am_r_icmp (t := 30) d84_25 (by decide)).trans (am_ite _ _ trivial (by simp only [am_cond, decide_eq_true_eq]))
theorem r84_28  : am_Rn L xs d 84 28 ls st σ Q = am_Rn L xs d 84 29 ls (.int (-1) :: st) σ Q := am_r_iconst d84_28 (by decide)
theorem r84_29 {v : Int32} : am_Rn L xs d 84 29 ls [.int v] σ Q = Q (some (.int v)) σ := am_r_ireturn d84_29 rfl
theorem r84_30  : am_Rn L xs d 84 30 ls st σ Q = am_li ls 2 (fun x => am_Rn L xs d 84 31 ls (.int x :: st) σ Q) := am_r_iload_n d84_30
theorem r84_31  : am_Rn L xs d 84 31 ls st σ Q = am_Rn L xs d 84 32 ls (.int (-1) :: st) σ Q := am_r_iconst d84_31 (by decide)
theorem r84_32 {a b : Int32} : am_Rn L xs d 84 32 ls (.int b :: .int a :: st) σ Q = if ¬ a = b then am_Rn L xs d 84 47 ls st σ Q else am_Rn L xs d 84 35 ls st σ Q := (am_r_icmp (t := 47) d84_32 (by decide)).trans (am_ite _ _ trivial (by simp only [am_cond, decide_eq_true_eq]))
theorem r84_35  : am_Rn L xs d 84 35 ls st σ Q = am_la ls 0 (fun x => am_Rn L xs d 84 36 ls (x :: st) σ Q) := am_r_aload_n d84_35
theorem r84_36 {p : Nat} : am_Rn L xs d 84 36 ls (.ref p :: st) σ Q = am_fd σ p 6 0 (fun v => am_Rn L xs d 84 39 ls (v :: st) σ Q) := am_r_getfield d84_36 rfl
theorem r84_39  : am_Rn L xs d 84 39 ls st σ Q = am_li ls 1 (fun x => am_Rn L xs d 84 40 ls (.int x :: st) σ Q) := am_r_iload_n d84_39
theorem r84_40 {p : Nat} {i : Int32} : am_Rn L xs d 84 40 ls (.int i :: .ref p :: st) σ Q = am_ai 0 σ p i (fun x => am_Rn L xs d 84 41 ls (.int x :: st) σ Q) := am_r_iaload d84_40
theorem r84_41 {a : Int32} : am_Rn L xs d 84 41 ls (.int a :: st) σ Q = if a ≤ 0 then am_Rn L xs d 84 58 ls st σ Q else am_Rn L xs d 84 44 ls st σ Q := (am_r_if (t := 58) d84_41 (by decide)).trans (am_ite _ _ trivial (by simp only [am_cond, decide_eq_true_eq]))
theorem r84_44  : am_Rn L xs d 84 44 ls st σ Q = am_Rn L xs d 84 56 ls st σ Q := am_r_goto d84_44 (by decide)
theorem r84_47  : am_Rn L xs d 84 47 ls st σ Q = am_la ls 0 (fun x => am_Rn L xs d 84 48 ls (x :: st) σ Q) := am_r_aload_n d84_47
theorem r84_48  : am_Rn L xs d 84 48 ls st σ Q = am_li ls 1 (fun x => am_Rn L xs d 84 49 ls (.int x :: st) σ Q) := am_r_iload_n d84_48
theorem r84_49  : am_Rn L xs d 84 49 ls st σ Q = am_li ls 2 (fun x => am_Rn L xs d 84 50 ls (.int x :: st) σ Q) := am_r_iload_n d84_49
theorem r84_50 {a1 a2 : Value} {p : Nat} : am_Rn L xs (d + 1) 84 50 ls (a2 :: a1 :: .ref p :: st) σ Q = ((am_oc σ p = 6 ∧ st.length ≤ 4 ∧ am_ok a1 = true ∧ am_ok a2 = true) ∧ am_Call L xs d 86 [.ref p, a1, a2] σ (fun r σ1 => am_Rn L xs (d + 1) 84 53 ls (r.toList ++ st) σ1 Q)) := am_R_virtual2 d84_50 rfl ⟨by decide, rfl⟩ rfl rfl (by decide)
theorem r84_53 {a : Int32} : am_Rn L xs d 84 53 ls (.int a :: st) σ Q = if ¬ a = 0 then am_Rn L xs d 84 58 ls st σ Q else am_Rn L xs d 84 56 ls st σ Q := (am_r_if (t := 58) d84_53 (by decide)).trans (am_ite _ _ trivial (by simp only [am_cond, decide_eq_true_eq]))
theorem r84_56  : am_Rn L xs d 84 56 ls st σ Q = am_Rn L xs d 84 57 ls (.int (-1) :: st) σ Q := am_r_iconst d84_56 (by decide)
theorem r84_57 {v : Int32} : am_Rn L xs d 84 57 ls [.int v] σ Q = Q (some (.int v)) σ := am_r_ireturn d84_57 rfl
theorem r84_58  : am_Rn L xs d 84 58 ls st σ Q = am_Rn L xs d 84 60 ls (.int 12 :: st) σ Q := am_r_bipush d84_58 (by decide)
theorem r84_60  : am_Rn L xs d 84 60 ls st σ Q = am_li ls 1 (fun x => am_Rn L xs d 84 61 ls (.int x :: st) σ Q) := am_r_iload_n d84_60
theorem r84_61 {a b : Int32} : am_Rn L xs d 84 61 ls (.int b :: .int a :: st) σ Q = am_Rn L xs d 84 62 ls (.int (a * b) :: st) σ Q := am_r_imul d84_61
theorem r84_62  : am_Rn L xs d 84 62 ls st σ Q = am_la ls 0 (fun x => am_Rn L xs d 84 63 ls (x :: st) σ Q) := am_r_aload_n d84_62
theorem r84_63 {p : Nat} : am_Rn L xs d 84 63 ls (.ref p :: st) σ Q = am_fd σ p 6 0 (fun v => am_Rn L xs d 84 66 ls (v :: st) σ Q) := am_r_getfield d84_63 rfl
theorem r84_66  : am_Rn L xs d 84 66 ls st σ Q = am_li ls 1 (fun x => am_Rn L xs d 84 67 ls (.int x :: st) σ Q) := am_r_iload_n d84_66
theorem r84_67 {p : Nat} {i : Int32} : am_Rn L xs d 84 67 ls (.int i :: .ref p :: st) σ Q = am_ai 0 σ p i (fun x => am_Rn L xs d 84 68 ls (.int x :: st) σ Q) := am_r_iaload d84_67
theorem r84_68 {a b : Int32} : am_Rn L xs d 84 68 ls (.int b :: .int a :: st) σ Q = am_Rn L xs d 84 69 ls (.int (a + b) :: st) σ Q := am_r_iadd d84_68
theorem r84_69 {x : Int32} : am_Rn L xs d 84 69 ls (.int x :: st) σ Q = (5 < ls.length ∧ am_Rn L xs d 84 71 (ls.set 5 (.int x)) st σ Q) := am_r_istore d84_69
theorem r84_71  : am_Rn L xs d 84 71 ls st σ Q = am_la ls 0 (fun x => am_Rn L xs d 84 72 ls (x :: st) σ Q) := am_r_aload_n d84_71
theorem r84_72 {p : Nat} : am_Rn L xs d 84 72 ls (.ref p :: st) σ Q = am_fd σ p 6 1 (fun v => am_Rn L xs d 84 75 ls (v :: st) σ Q) := am_r_getfield d84_72 rfl
theorem r84_75  : am_Rn L xs d 84 75 ls st σ Q = am_li ls 5 (fun x => am_Rn L xs d 84 77 ls (.int x :: st) σ Q) := am_r_iload d84_75
theorem r84_77  : am_Rn L xs d 84 77 ls st σ Q = am_li ls 2 (fun x => am_Rn L xs d 84 78 ls (.int x :: st) σ Q) := am_r_iload_n d84_77
theorem r84_78 {p : Nat} {i x : Int32} : am_Rn L xs d 84 78 ls (.int x :: .int i :: .ref p :: st) σ Q = am_wi 0 σ p i x (fun σ1 => am_Rn L xs d 84 79 ls st σ1 Q) := am_r_iastore d84_78
theorem r84_79  : am_Rn L xs d 84 79 ls st σ Q = am_la ls 0 (fun x => am_Rn L xs d 84 80 ls (x :: st) σ Q) := am_r_aload_n d84_79
theorem r84_80 {p : Nat} : am_Rn L xs d 84 80 ls (.ref p :: st) σ Q = am_fd σ p 6 2 (fun v => am_Rn L xs d 84 83 ls (v :: st) σ Q) := am_r_getfield d84_80 rfl
theorem r84_83  : am_Rn L xs d 84 83 ls st σ Q = am_li ls 5 (fun x => am_Rn L xs d 84 85 ls (.int x :: st) σ Q) := am_r_iload d84_83
theorem r84_85  : am_Rn L xs d 84 85 ls st σ Q = am_li ls 3 (fun x => am_Rn L xs d 84 86 ls (.int x :: st) σ Q) := am_r_iload_n d84_85
theorem r84_86 {p : Nat} {i x : Int32} : am_Rn L xs d 84 86 ls (.int x :: .int i :: .ref p :: st) σ Q = am_wi 0 σ p i x (fun σ1 => am_Rn L xs d 84 87 ls st σ1 Q) := am_r_iastore d84_86
theorem r84_87  : am_Rn L xs d 84 87 ls st σ Q = am_la ls 0 (fun x => am_Rn L xs d 84 88 ls (x :: st) σ Q) := am_r_aload_n d84_87
theorem r84_88 {p : Nat} : am_Rn L xs d 84 88 ls (.ref p :: st) σ Q = am_fd σ p 6 3 (fun v => am_Rn L xs d 84 91 ls (v :: st) σ Q) := am_r_getfield d84_88 rfl
theorem r84_91  : am_Rn L xs d 84 91 ls st σ Q = am_li ls 5 (fun x => am_Rn L xs d 84 93 ls (.int x :: st) σ Q) := am_r_iload d84_91
theorem r84_93  : am_Rn L xs d 84 93 ls st σ Q = am_li ls 4 (fun x => am_Rn L xs d 84 95 ls (.int x :: st) σ Q) := am_r_iload d84_93
theorem r84_95 {p : Nat} {i x : Int32} : am_Rn L xs d 84 95 ls (.int x :: .int i :: .ref p :: st) σ Q = am_wi 0 σ p i x (fun σ1 => am_Rn L xs d 84 96 ls st σ1 Q) := am_r_iastore d84_95
theorem r84_96  : am_Rn L xs d 84 96 ls st σ Q = am_la ls 0 (fun x => am_Rn L xs d 84 97 ls (x :: st) σ Q) := am_r_aload_n d84_96
theorem r84_97 {p : Nat} : am_Rn L xs d 84 97 ls (.ref p :: st) σ Q = am_fd σ p 6 0 (fun v => am_Rn L xs d 84 100 ls (v :: st) σ Q) := am_r_getfield d84_97 rfl
theorem r84_100  : am_Rn L xs d 84 100 ls st σ Q = am_li ls 1 (fun x => am_Rn L xs d 84 101 ls (.int x :: st) σ Q) := am_r_iload_n d84_100
theorem r84_101 {a b : Value} : am_Rn L xs d 84 101 ls (a :: b :: st) σ Q = ((am_ok a && am_ok b) = true ∧ am_Rn L xs d 84 102 ls (a :: b :: a :: b :: st) σ Q) := am_r_dup2 d84_101
theorem r84_102 {p : Nat} {i : Int32} : am_Rn L xs d 84 102 ls (.int i :: .ref p :: st) σ Q = am_ai 0 σ p i (fun x => am_Rn L xs d 84 103 ls (.int x :: st) σ Q) := am_r_iaload d84_102
theorem r84_103  : am_Rn L xs d 84 103 ls st σ Q = am_Rn L xs d 84 104 ls (.int 1 :: st) σ Q := am_r_iconst d84_103 (by decide)
theorem r84_104 {a b : Int32} : am_Rn L xs d 84 104 ls (.int b :: .int a :: st) σ Q = am_Rn L xs d 84 105 ls (.int (a + b) :: st) σ Q := am_r_iadd d84_104
theorem r84_105 {p : Nat} {i x : Int32} : am_Rn L xs d 84 105 ls (.int x :: .int i :: .ref p :: st) σ Q = am_wi 0 σ p i x (fun σ1 => am_Rn L xs d 84 106 ls st σ1 Q) := am_r_iastore d84_105
theorem r84_106  : am_Rn L xs d 84 106 ls st σ Q = am_la ls 0 (fun x => am_Rn L xs d 84 107 ls (x :: st) σ Q) := am_r_aload_n d84_106
theorem r84_107 {p : Nat} : am_Rn L xs d 84 107 ls (.ref p :: st) σ Q = am_fd σ p 6 0 (fun v => am_Rn L xs d 84 110 ls (v :: st) σ Q) := am_r_getfield d84_107 rfl
theorem r84_110  : am_Rn L xs d 84 110 ls st σ Q = am_li ls 1 (fun x => am_Rn L xs d 84 111 ls (.int x :: st) σ Q) := am_r_iload_n d84_110
theorem r84_111 {p : Nat} {i : Int32} : am_Rn L xs d 84 111 ls (.int i :: .ref p :: st) σ Q = am_ai 0 σ p i (fun x => am_Rn L xs d 84 112 ls (.int x :: st) σ Q) := am_r_iaload d84_111
theorem r84_112  : am_Rn L xs d 84 112 ls st σ Q = am_Rn L xs d 84 113 ls (.int 1 :: st) σ Q := am_r_iconst d84_112 (by decide)
theorem r84_113 {a b : Int32} : am_Rn L xs d 84 113 ls (.int b :: .int a :: st) σ Q = am_Rn L xs d 84 114 ls (.int (a - b) :: st) σ Q := am_r_isub d84_113
theorem r84_114 {v : Int32} : am_Rn L xs d 84 114 ls [.int v] σ Q = Q (some (.int v)) σ := am_r_ireturn d84_114 rfl
theorem d85_0 : decode (pg_code 85) 0 = .ok (.iload_n 0, 1) := by decide +kernel
theorem d85_1 : decode (pg_code 85) 1 = .ok (.ifCond .lt 12, 3) := by decide +kernel
theorem d85_4 : decode (pg_code 85) 4 = .ok (.iload_n 0, 1) := by decide +kernel
theorem d85_5 : decode (pg_code 85) 5 = .ok (.iconst 3, 1) := by decide +kernel
theorem d85_6 : decode (pg_code 85) 6 = .ok (.if_icmp .ge 7, 3) := by decide +kernel
theorem d85_9 : decode (pg_code 85) 9 = .ok (.iconst 1, 1) := by decide +kernel
theorem d85_10 : decode (pg_code 85) 10 = .ok (.goto 4, 3) := by decide +kernel
theorem d85_13 : decode (pg_code 85) 13 = .ok (.iconst 0, 1) := by decide +kernel
theorem d85_14 : decode (pg_code 85) 14 = .ok (.ireturn, 1) := by decide +kernel
theorem e85 {b1 : Value} : am_Call L xs d 85 [b1] σ Q = am_Rn L xs d 85 0 [b1] [] σ Q := rfl
theorem r85_0  : am_Rn L xs d 85 0 ls st σ Q = am_li ls 0 (fun x => am_Rn L xs d 85 1 ls (.int x :: st) σ Q) := am_r_iload_n d85_0
theorem r85_1 {a : Int32} : am_Rn L xs d 85 1 ls (.int a :: st) σ Q = if a < 0 then am_Rn L xs d 85 13 ls st σ Q else am_Rn L xs d 85 4 ls st σ Q := (am_r_if (t := 13) d85_1 (by decide)).trans (am_ite _ _ trivial (by simp only [am_cond, decide_eq_true_eq]))
theorem r85_4  : am_Rn L xs d 85 4 ls st σ Q = am_li ls 0 (fun x => am_Rn L xs d 85 5 ls (.int x :: st) σ Q) := am_r_iload_n d85_4
theorem r85_5  : am_Rn L xs d 85 5 ls st σ Q = am_Rn L xs d 85 6 ls (.int 3 :: st) σ Q := am_r_iconst d85_5 (by decide)
theorem r85_6 {a b : Int32} : am_Rn L xs d 85 6 ls (.int b :: .int a :: st) σ Q = if b ≤ a then am_Rn L xs d 85 13 ls st σ Q else am_Rn L xs d 85 9 ls st σ Q := (am_r_icmp (t := 13) d85_6 (by decide)).trans (am_ite _ _ trivial (by simp only [am_cond, decide_eq_true_eq]))
theorem r85_9  : am_Rn L xs d 85 9 ls st σ Q = am_Rn L xs d 85 10 ls (.int 1 :: st) σ Q := am_r_iconst d85_9 (by decide)
theorem r85_10  : am_Rn L xs d 85 10 ls st σ Q = am_Rn L xs d 85 14 ls st σ Q := am_r_goto d85_10 (by decide)
theorem r85_13  : am_Rn L xs d 85 13 ls st σ Q = am_Rn L xs d 85 14 ls (.int 0 :: st) σ Q := am_r_iconst d85_13 (by decide)
theorem r85_14 {v : Int32} (hv : v = 0 ∨ v = 1) : am_Rn L xs d 85 14 ls [.int v] σ Q = Q (some (.int v)) σ := am_r_zreturn d85_14 rfl hv
theorem d86_0 : decode (pg_code 86) 0 = .ok (.iload_n 1, 1) := by decide +kernel
theorem d86_1 : decode (pg_code 86) 1 = .ok (.invokestatic 113, 3) := by decide +kernel
theorem d86_4 : decode (pg_code 86) 4 = .ok (.ifCond .eq 21, 3) := by decide +kernel
theorem d86_7 : decode (pg_code 86) 7 = .ok (.iload_n 2, 1) := by decide +kernel
theorem d86_8 : decode (pg_code 86) 8 = .ok (.ifCond .lt 17, 3) := by decide +kernel
theorem d86_11 : decode (pg_code 86) 11 = .ok (.iload_n 2, 1) := by decide +kernel
theorem d86_12 : decode (pg_code 86) 12 = .ok (.aload_n 0, 1) := by decide +kernel
theorem d86_13 : decode (pg_code 86) 13 = .ok (.getfield 7, 3) := by decide +kernel
theorem d86_16 : decode (pg_code 86) 16 = .ok (.iload_n 1, 1) := by decide +kernel
theorem d86_17 : decode (pg_code 86) 17 = .ok (.iaload, 1) := by decide +kernel
theorem d86_18 : decode (pg_code 86) 18 = .ok (.if_icmp .ge 7, 3) := by decide +kernel
theorem d86_21 : decode (pg_code 86) 21 = .ok (.iconst 1, 1) := by decide +kernel
theorem d86_22 : decode (pg_code 86) 22 = .ok (.goto 4, 3) := by decide +kernel
theorem d86_25 : decode (pg_code 86) 25 = .ok (.iconst 0, 1) := by decide +kernel
theorem d86_26 : decode (pg_code 86) 26 = .ok (.ireturn, 1) := by decide +kernel
theorem e86 {b1 b2 b3 : Value} : am_Call L xs d 86 [b1, b2, b3] σ Q = am_Rn L xs d 86 0 [b1, b2, b3] [] σ Q := rfl
theorem r86_0  : am_Rn L xs d 86 0 ls st σ Q = am_li ls 1 (fun x => am_Rn L xs d 86 1 ls (.int x :: st) σ Q) := am_r_iload_n d86_0
theorem r86_1 {a1 : Value} : am_Rn L xs (d + 1) 86 1 ls (a1 :: st) σ Q = ((st.length ≤ 4 ∧ am_ok a1 = true) ∧ am_Call L xs d 85 [a1] σ (fun r σ1 => am_Rn L xs (d + 1) 86 4 ls (r.toList ++ st) σ1 Q)) := am_R_static1 d86_1 rfl ⟨by decide, rfl⟩ rfl (by decide)
theorem r86_4 {a : Int32} : am_Rn L xs d 86 4 ls (.int a :: st) σ Q = if a = 0 then am_Rn L xs d 86 25 ls st σ Q else am_Rn L xs d 86 7 ls st σ Q := (am_r_if (t := 25) d86_4 (by decide)).trans (am_ite _ _ trivial (by simp only [am_cond, decide_eq_true_eq]))
theorem r86_7  : am_Rn L xs d 86 7 ls st σ Q = am_li ls 2 (fun x => am_Rn L xs d 86 8 ls (.int x :: st) σ Q) := am_r_iload_n d86_7
theorem r86_8 {a : Int32} : am_Rn L xs d 86 8 ls (.int a :: st) σ Q = if a < 0 then am_Rn L xs d 86 25 ls st σ Q else am_Rn L xs d 86 11 ls st σ Q := (am_r_if (t := 25) d86_8 (by decide)).trans (am_ite _ _ trivial (by simp only [am_cond, decide_eq_true_eq]))
theorem r86_11  : am_Rn L xs d 86 11 ls st σ Q = am_li ls 2 (fun x => am_Rn L xs d 86 12 ls (.int x :: st) σ Q) := am_r_iload_n d86_11
theorem r86_12  : am_Rn L xs d 86 12 ls st σ Q = am_la ls 0 (fun x => am_Rn L xs d 86 13 ls (x :: st) σ Q) := am_r_aload_n d86_12
theorem r86_13 {p : Nat} : am_Rn L xs d 86 13 ls (.ref p :: st) σ Q = am_fd σ p 6 0 (fun v => am_Rn L xs d 86 16 ls (v :: st) σ Q) := am_r_getfield d86_13 rfl
theorem r86_16  : am_Rn L xs d 86 16 ls st σ Q = am_li ls 1 (fun x => am_Rn L xs d 86 17 ls (.int x :: st) σ Q) := am_r_iload_n d86_16
theorem r86_17 {p : Nat} {i : Int32} : am_Rn L xs d 86 17 ls (.int i :: .ref p :: st) σ Q = am_ai 0 σ p i (fun x => am_Rn L xs d 86 18 ls (.int x :: st) σ Q) := am_r_iaload d86_17
theorem r86_18 {a b : Int32} : am_Rn L xs d 86 18 ls (.int b :: .int a :: st) σ Q = if b ≤ a then am_Rn L xs d 86 25 ls st σ Q else am_Rn L xs d 86 21 ls st σ Q := (am_r_icmp (t := 25) d86_18 (by decide)).trans (am_ite _ _ trivial (by simp only [am_cond, decide_eq_true_eq]))
theorem r86_21  : am_Rn L xs d 86 21 ls st σ Q = am_Rn L xs d 86 22 ls (.int 1 :: st) σ Q := am_r_iconst d86_21 (by decide)
theorem r86_22  : am_Rn L xs d 86 22 ls st σ Q = am_Rn L xs d 86 26 ls st σ Q := am_r_goto d86_22 (by decide)
theorem r86_25  : am_Rn L xs d 86 25 ls st σ Q = am_Rn L xs d 86 26 ls (.int 0 :: st) σ Q := am_r_iconst d86_25 (by decide)
theorem r86_26 {v : Int32} (hv : v = 0 ∨ v = 1) : am_Rn L xs d 86 26 ls [.int v] σ Q = Q (some (.int v)) σ := am_r_zreturn d86_26 rfl hv
theorem d87_0 : decode (pg_code 87) 0 = .ok (.iload_n 1, 1) := by decide +kernel
theorem d87_1 : decode (pg_code 87) 1 = .ok (.invokestatic 113, 3) := by decide +kernel
theorem d87_4 : decode (pg_code 87) 4 = .ok (.ifCond .ne 5, 3) := by decide +kernel
theorem d87_7 : decode (pg_code 87) 7 = .ok (.iconst 0, 1) := by decide +kernel
theorem d87_8 : decode (pg_code 87) 8 = .ok (.ireturn, 1) := by decide +kernel
theorem d87_9 : decode (pg_code 87) 9 = .ok (.aload_n 0, 1) := by decide +kernel
theorem d87_10 : decode (pg_code 87) 10 = .ok (.getfield 7, 3) := by decide +kernel
theorem d87_13 : decode (pg_code 87) 13 = .ok (.iload_n 1, 1) := by decide +kernel
theorem d87_14 : decode (pg_code 87) 14 = .ok (.iconst 0, 1) := by decide +kernel
theorem d87_15 : decode (pg_code 87) 15 = .ok (.iastore, 1) := by decide +kernel
theorem d87_16 : decode (pg_code 87) 16 = .ok (.iconst 1, 1) := by decide +kernel
theorem d87_17 : decode (pg_code 87) 17 = .ok (.ireturn, 1) := by decide +kernel
theorem e87 {b1 b2 : Value} : am_Call L xs d 87 [b1, b2] σ Q = am_Rn L xs d 87 0 [b1, b2] [] σ Q := rfl
theorem r87_0  : am_Rn L xs d 87 0 ls st σ Q = am_li ls 1 (fun x => am_Rn L xs d 87 1 ls (.int x :: st) σ Q) := am_r_iload_n d87_0
theorem r87_1 {a1 : Value} : am_Rn L xs (d + 1) 87 1 ls (a1 :: st) σ Q = ((st.length ≤ 4 ∧ am_ok a1 = true) ∧ am_Call L xs d 85 [a1] σ (fun r σ1 => am_Rn L xs (d + 1) 87 4 ls (r.toList ++ st) σ1 Q)) := am_R_static1 d87_1 rfl ⟨by decide, rfl⟩ rfl (by decide)
theorem r87_4 {a : Int32} : am_Rn L xs d 87 4 ls (.int a :: st) σ Q = if ¬ a = 0 then am_Rn L xs d 87 9 ls st σ Q else am_Rn L xs d 87 7 ls st σ Q := (am_r_if (t := 9) d87_4 (by decide)).trans (am_ite _ _ trivial (by simp only [am_cond, decide_eq_true_eq]))
theorem r87_7  : am_Rn L xs d 87 7 ls st σ Q = am_Rn L xs d 87 8 ls (.int 0 :: st) σ Q := am_r_iconst d87_7 (by decide)
theorem r87_8 {v : Int32} (hv : v = 0 ∨ v = 1) : am_Rn L xs d 87 8 ls [.int v] σ Q = Q (some (.int v)) σ := am_r_zreturn d87_8 rfl hv
theorem r87_9  : am_Rn L xs d 87 9 ls st σ Q = am_la ls 0 (fun x => am_Rn L xs d 87 10 ls (x :: st) σ Q) := am_r_aload_n d87_9
theorem r87_10 {p : Nat} : am_Rn L xs d 87 10 ls (.ref p :: st) σ Q = am_fd σ p 6 0 (fun v => am_Rn L xs d 87 13 ls (v :: st) σ Q) := am_r_getfield d87_10 rfl
theorem r87_13  : am_Rn L xs d 87 13 ls st σ Q = am_li ls 1 (fun x => am_Rn L xs d 87 14 ls (.int x :: st) σ Q) := am_r_iload_n d87_13
theorem r87_14  : am_Rn L xs d 87 14 ls st σ Q = am_Rn L xs d 87 15 ls (.int 0 :: st) σ Q := am_r_iconst d87_14 (by decide)
theorem r87_15 {p : Nat} {i x : Int32} : am_Rn L xs d 87 15 ls (.int x :: .int i :: .ref p :: st) σ Q = am_wi 0 σ p i x (fun σ1 => am_Rn L xs d 87 16 ls st σ1 Q) := am_r_iastore d87_15
theorem r87_16  : am_Rn L xs d 87 16 ls st σ Q = am_Rn L xs d 87 17 ls (.int 1 :: st) σ Q := am_r_iconst d87_16 (by decide)
theorem r87_17 {v : Int32} (hv : v = 0 ∨ v = 1) : am_Rn L xs d 87 17 ls [.int v] σ Q = Q (some (.int v)) σ := am_r_zreturn d87_17 rfl hv
theorem d88_0 : decode (pg_code 88) 0 = .ok (.iload_n 1, 1) := by decide +kernel
theorem d88_1 : decode (pg_code 88) 1 = .ok (.invokestatic 113, 3) := by decide +kernel
theorem d88_4 : decode (pg_code 88) 4 = .ok (.ifCond .eq 12, 3) := by decide +kernel
theorem d88_7 : decode (pg_code 88) 7 = .ok (.aload_n 0, 1) := by decide +kernel
theorem d88_8 : decode (pg_code 88) 8 = .ok (.getfield 7, 3) := by decide +kernel
theorem d88_11 : decode (pg_code 88) 11 = .ok (.iload_n 1, 1) := by decide +kernel
theorem d88_12 : decode (pg_code 88) 12 = .ok (.iaload, 1) := by decide +kernel
theorem d88_13 : decode (pg_code 88) 13 = .ok (.goto 4, 3) := by decide +kernel
theorem d88_16 : decode (pg_code 88) 16 = .ok (.iconst (-1), 1) := by decide +kernel
theorem d88_17 : decode (pg_code 88) 17 = .ok (.ireturn, 1) := by decide +kernel
theorem e88 {b1 b2 : Value} : am_Call L xs d 88 [b1, b2] σ Q = am_Rn L xs d 88 0 [b1, b2] [] σ Q := rfl
theorem r88_0  : am_Rn L xs d 88 0 ls st σ Q = am_li ls 1 (fun x => am_Rn L xs d 88 1 ls (.int x :: st) σ Q) := am_r_iload_n d88_0
theorem r88_1 {a1 : Value} : am_Rn L xs (d + 1) 88 1 ls (a1 :: st) σ Q = ((st.length ≤ 4 ∧ am_ok a1 = true) ∧ am_Call L xs d 85 [a1] σ (fun r σ1 => am_Rn L xs (d + 1) 88 4 ls (r.toList ++ st) σ1 Q)) := am_R_static1 d88_1 rfl ⟨by decide, rfl⟩ rfl (by decide)
theorem r88_4 {a : Int32} : am_Rn L xs d 88 4 ls (.int a :: st) σ Q = if a = 0 then am_Rn L xs d 88 16 ls st σ Q else am_Rn L xs d 88 7 ls st σ Q := (am_r_if (t := 16) d88_4 (by decide)).trans (am_ite _ _ trivial (by simp only [am_cond, decide_eq_true_eq]))
theorem r88_7  : am_Rn L xs d 88 7 ls st σ Q = am_la ls 0 (fun x => am_Rn L xs d 88 8 ls (x :: st) σ Q) := am_r_aload_n d88_7
theorem r88_8 {p : Nat} : am_Rn L xs d 88 8 ls (.ref p :: st) σ Q = am_fd σ p 6 0 (fun v => am_Rn L xs d 88 11 ls (v :: st) σ Q) := am_r_getfield d88_8 rfl
theorem r88_11  : am_Rn L xs d 88 11 ls st σ Q = am_li ls 1 (fun x => am_Rn L xs d 88 12 ls (.int x :: st) σ Q) := am_r_iload_n d88_11
theorem r88_12 {p : Nat} {i : Int32} : am_Rn L xs d 88 12 ls (.int i :: .ref p :: st) σ Q = am_ai 0 σ p i (fun x => am_Rn L xs d 88 13 ls (.int x :: st) σ Q) := am_r_iaload d88_12
theorem r88_13  : am_Rn L xs d 88 13 ls st σ Q = am_Rn L xs d 88 17 ls st σ Q := am_r_goto d88_13 (by decide)
theorem r88_16  : am_Rn L xs d 88 16 ls st σ Q = am_Rn L xs d 88 17 ls (.int (-1) :: st) σ Q := am_r_iconst d88_16 (by decide)
theorem r88_17 {v : Int32} : am_Rn L xs d 88 17 ls [.int v] σ Q = Q (some (.int v)) σ := am_r_ireturn d88_17 rfl
theorem d89_0 : decode (pg_code 89) 0 = .ok (.aload_n 0, 1) := by decide +kernel
theorem d89_1 : decode (pg_code 89) 1 = .ok (.iload_n 1, 1) := by decide +kernel
theorem d89_2 : decode (pg_code 89) 2 = .ok (.iload_n 2, 1) := by decide +kernel
theorem d89_3 : decode (pg_code 89) 3 = .ok (.invokevirtual 117, 3) := by decide +kernel
theorem d89_6 : decode (pg_code 89) 6 = .ok (.ifCond .ne 5, 3) := by decide +kernel
theorem d89_9 : decode (pg_code 89) 9 = .ok (.iconst (-1), 1) := by decide +kernel
theorem d89_10 : decode (pg_code 89) 10 = .ok (.ireturn, 1) := by decide +kernel
theorem e89 {b1 b2 b3 : Value} : am_Call L xs d 89 [b1, b2, b3] σ Q = am_Rn L xs d 89 0 [b1, b2, b3, .retAddr 0, .retAddr 0, .retAddr 0, .retAddr 0] [] σ Q := rfl
theorem r89_0  : am_Rn L xs d 89 0 ls st σ Q = am_la ls 0 (fun x => am_Rn L xs d 89 1 ls (x :: st) σ Q) := am_r_aload_n d89_0
theorem r89_1  : am_Rn L xs d 89 1 ls st σ Q = am_li ls 1 (fun x => am_Rn L xs d 89 2 ls (.int x :: st) σ Q) := am_r_iload_n d89_1
theorem r89_2  : am_Rn L xs d 89 2 ls st σ Q = am_li ls 2 (fun x => am_Rn L xs d 89 3 ls (.int x :: st) σ Q) := am_r_iload_n d89_2
theorem r89_3 {a1 a2 : Value} {p : Nat} : am_Rn L xs (d + 1) 89 3 ls (a2 :: a1 :: .ref p :: st) σ Q = ((am_oc σ p = 6 ∧ st.length ≤ 4 ∧ am_ok a1 = true ∧ am_ok a2 = true) ∧ am_Call L xs d 86 [.ref p, a1, a2] σ (fun r σ1 => am_Rn L xs (d + 1) 89 6 ls (r.toList ++ st) σ1 Q)) := am_R_virtual2 d89_3 rfl ⟨by decide, rfl⟩ rfl rfl (by decide)
theorem r89_6 {a : Int32} : am_Rn L xs d 89 6 ls (.int a :: st) σ Q = if ¬ a = 0 then am_Rn L xs d 89 11 ls st σ Q else am_Rn L xs d 89 9 ls st σ Q := (am_r_if (t := 11) d89_6 (by decide)).trans (am_ite _ _ trivial (by simp only [am_cond, decide_eq_true_eq]))
theorem r89_9  : am_Rn L xs d 89 9 ls st σ Q = am_Rn L xs d 89 10 ls (.int (-1) :: st) σ Q := am_r_iconst d89_9 (by decide)
theorem r89_10 {v : Int32} : am_Rn L xs d 89 10 ls [.int v] σ Q = Q (some (.int v)) σ := am_r_ireturn d89_10 rfl
theorem d90_0 : decode (pg_code 90) 0 = .ok (.aload_n 0, 1) := by decide +kernel
theorem d90_1 : decode (pg_code 90) 1 = .ok (.iload_n 1, 1) := by decide +kernel
theorem d90_2 : decode (pg_code 90) 2 = .ok (.iload_n 2, 1) := by decide +kernel
theorem d90_3 : decode (pg_code 90) 3 = .ok (.invokevirtual 117, 3) := by decide +kernel
theorem d90_6 : decode (pg_code 90) 6 = .ok (.ifCond .eq 13, 3) := by decide +kernel
theorem d90_19 : decode (pg_code 90) 19 = .ok (.iconst 0, 1) := by decide +kernel
theorem d90_20 : decode (pg_code 90) 20 = .ok (.ireturn, 1) := by decide +kernel
theorem e90 {b1 b2 b3 b4 b5 : Value} : am_Call L xs d 90 [b1, b2, b3, b4, b5] σ Q = am_Rn L xs d 90 0 [b1, b2, b3, b4, b5] [] σ Q := rfl
theorem r90_0  : am_Rn L xs d 90 0 ls st σ Q = am_la ls 0 (fun x => am_Rn L xs d 90 1 ls (x :: st) σ Q) := am_r_aload_n d90_0
theorem r90_1  : am_Rn L xs d 90 1 ls st σ Q = am_li ls 1 (fun x => am_Rn L xs d 90 2 ls (.int x :: st) σ Q) := am_r_iload_n d90_1
theorem r90_2  : am_Rn L xs d 90 2 ls st σ Q = am_li ls 2 (fun x => am_Rn L xs d 90 3 ls (.int x :: st) σ Q) := am_r_iload_n d90_2
theorem r90_3 {a1 a2 : Value} {p : Nat} : am_Rn L xs (d + 1) 90 3 ls (a2 :: a1 :: .ref p :: st) σ Q = ((am_oc σ p = 6 ∧ st.length ≤ 4 ∧ am_ok a1 = true ∧ am_ok a2 = true) ∧ am_Call L xs d 86 [.ref p, a1, a2] σ (fun r σ1 => am_Rn L xs (d + 1) 90 6 ls (r.toList ++ st) σ1 Q)) := am_R_virtual2 d90_3 rfl ⟨by decide, rfl⟩ rfl rfl (by decide)
theorem r90_6 {a : Int32} : am_Rn L xs d 90 6 ls (.int a :: st) σ Q = if a = 0 then am_Rn L xs d 90 19 ls st σ Q else am_Rn L xs d 90 9 ls st σ Q := (am_r_if (t := 19) d90_6 (by decide)).trans (am_ite _ _ trivial (by simp only [am_cond, decide_eq_true_eq]))
theorem r90_19  : am_Rn L xs d 90 19 ls st σ Q = am_Rn L xs d 90 20 ls (.int 0 :: st) σ Q := am_r_iconst d90_19 (by decide)
theorem r90_20 {v : Int32} (hv : v = 0 ∨ v = 1) : am_Rn L xs d 90 20 ls [.int v] σ Q = Q (some (.int v)) σ := am_r_zreturn d90_20 rfl hv
theorem d93_0 : decode (pg_code 93) 0 = .ok (.iload_n 1, 1) := by decide +kernel
theorem d93_1 : decode (pg_code 93) 1 = .ok (.invokestatic 113, 3) := by decide +kernel
theorem d93_4 : decode (pg_code 93) 4 = .ok (.ifCond .eq 28, 3) := by decide +kernel
theorem d93_7 : decode (pg_code 93) 7 = .ok (.iload_n 2, 1) := by decide +kernel
theorem d93_8 : decode (pg_code 93) 8 = .ok (.invokestatic 113, 3) := by decide +kernel
theorem d93_11 : decode (pg_code 93) 11 = .ok (.ifCond .eq 21, 3) := by decide +kernel
theorem d93_14 : decode (pg_code 93) 14 = .ok (.aload_n 0, 1) := by decide +kernel
theorem d93_15 : decode (pg_code 93) 15 = .ok (.getfield 7, 3) := by decide +kernel
theorem d93_18 : decode (pg_code 93) 18 = .ok (.iload_n 1, 1) := by decide +kernel
theorem d93_19 : decode (pg_code 93) 19 = .ok (.iaload, 1) := by decide +kernel
theorem d93_20 : decode (pg_code 93) 20 = .ok (.ifCond .eq 12, 3) := by decide +kernel
theorem d93_32 : decode (pg_code 93) 32 = .ok (.iconst (-1), 1) := by decide +kernel
theorem d93_33 : decode (pg_code 93) 33 = .ok (.ireturn, 1) := by decide +kernel
theorem e93 {b1 b2 b3 : Value} : am_Call L xs d 93 [b1, b2, b3] σ Q = am_Rn L xs d 93 0 [b1, b2, b3, .retAddr 0] [] σ Q := rfl
theorem r93_0  : am_Rn L xs d 93 0 ls st σ Q = am_li ls 1 (fun x => am_Rn L xs d 93 1 ls (.int x :: st) σ Q) := am_r_iload_n d93_0
theorem r93_1 {a1 : Value} : am_Rn L xs (d + 1) 93 1 ls (a1 :: st) σ Q = ((st.length ≤ 4 ∧ am_ok a1 = true) ∧ am_Call L xs d 85 [a1] σ (fun r σ1 => am_Rn L xs (d + 1) 93 4 ls (r.toList ++ st) σ1 Q)) := am_R_static1 d93_1 rfl ⟨by decide, rfl⟩ rfl (by decide)
theorem r93_4 {a : Int32} : am_Rn L xs d 93 4 ls (.int a :: st) σ Q = if a = 0 then am_Rn L xs d 93 32 ls st σ Q else am_Rn L xs d 93 7 ls st σ Q := (am_r_if (t := 32) d93_4 (by decide)).trans (am_ite _ _ trivial (by simp only [am_cond, decide_eq_true_eq]))
theorem r93_7  : am_Rn L xs d 93 7 ls st σ Q = am_li ls 2 (fun x => am_Rn L xs d 93 8 ls (.int x :: st) σ Q) := am_r_iload_n d93_7
theorem r93_8 {a1 : Value} : am_Rn L xs (d + 1) 93 8 ls (a1 :: st) σ Q = ((st.length ≤ 4 ∧ am_ok a1 = true) ∧ am_Call L xs d 85 [a1] σ (fun r σ1 => am_Rn L xs (d + 1) 93 11 ls (r.toList ++ st) σ1 Q)) := am_R_static1 d93_8 rfl ⟨by decide, rfl⟩ rfl (by decide)
theorem r93_11 {a : Int32} : am_Rn L xs d 93 11 ls (.int a :: st) σ Q = if a = 0 then am_Rn L xs d 93 32 ls st σ Q else am_Rn L xs d 93 14 ls st σ Q := (am_r_if (t := 32) d93_11 (by decide)).trans (am_ite _ _ trivial (by simp only [am_cond, decide_eq_true_eq]))
theorem r93_14  : am_Rn L xs d 93 14 ls st σ Q = am_la ls 0 (fun x => am_Rn L xs d 93 15 ls (x :: st) σ Q) := am_r_aload_n d93_14
theorem r93_15 {p : Nat} : am_Rn L xs d 93 15 ls (.ref p :: st) σ Q = am_fd σ p 6 0 (fun v => am_Rn L xs d 93 18 ls (v :: st) σ Q) := am_r_getfield d93_15 rfl
theorem r93_18  : am_Rn L xs d 93 18 ls st σ Q = am_li ls 1 (fun x => am_Rn L xs d 93 19 ls (.int x :: st) σ Q) := am_r_iload_n d93_18
theorem r93_19 {p : Nat} {i : Int32} : am_Rn L xs d 93 19 ls (.int i :: .ref p :: st) σ Q = am_ai 0 σ p i (fun x => am_Rn L xs d 93 20 ls (.int x :: st) σ Q) := am_r_iaload d93_19
theorem r93_20 {a : Int32} : am_Rn L xs d 93 20 ls (.int a :: st) σ Q = if a = 0 then am_Rn L xs d 93 32 ls st σ Q else am_Rn L xs d 93 23 ls st σ Q := (am_r_if (t := 32) d93_20 (by decide)).trans (am_ite _ _ trivial (by simp only [am_cond, decide_eq_true_eq]))
theorem r93_32  : am_Rn L xs d 93 32 ls st σ Q = am_Rn L xs d 93 33 ls (.int (-1) :: st) σ Q := am_r_iconst d93_32 (by decide)
theorem r93_33 {v : Int32} : am_Rn L xs d 93 33 ls [.int v] σ Q = Q (some (.int v)) σ := am_r_ireturn d93_33 rfl
end
