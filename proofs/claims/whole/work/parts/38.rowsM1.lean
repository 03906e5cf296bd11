/-! Rows of the program's instructions, written by program (wip/gen/gen_rows.py) -/
section
variable {L : Nat} {xs : Nat → Int32} {d : Nat} {ls st : List Value} {σ : am_S} {Q : Option Value → am_S → Prop}
theorem d84_0 : decode (pg_code 84) 0 = .ok (.iload_n 1, 1) := by decide +kernel
theorem d84_1 : decode (pg_code 84) 1 = .ok (.invokestatic 113, 3) := by decide +kernel
theorem d84_4 : decode (pg_code 84) 4 = .ok (.ifCond .eq 24, 3) := by decide +kernel
theorem d84_7 : decode (pg_code 84) 7 = .ok (.iload_n 3, 1) := by decide +kernel
theorem d84_8 : decode (pg_code 84) 8 = .ok (.ifCond .lt 20, 3) := by decide +kernel
theorem d84_11 : decode (pg_code 84) 11 = .ok (.iload_n 3, 1) := by decide +kernel
theorem d84_12 : decode (pg_code 84) 12 = .ok (.bipush 7, 2) := by decide +kernel
theorem d84_14 : decode (pg_code 84) 14 = .ok (.if_icmp .gt 14, 3) := by decide +kernel
theorem d84_17 : decode (pg_code 84) 17 = .ok (.aload_n 0, 1) := by decide +kernel
theorem d84_18 : decode (pg_code 84) 18 = .ok (.getfield 7, 3) := by decide +kernel
theorem d84_21 : decode (pg_code 84) 21 = .ok (.iload_n 1, 1) := by decide +kernel
theorem d84_22 : decode (pg_code 84) 22 = .ok (.iaload, 1) := by decide +kernel
theorem d84_23 : decode (pg_code 84) 23 = .ok (.bipush 12, 2) := by decide +kernel
theorem d84_25 : decode (pg_code 84) 25 = .ok (.if_icmp .ne 5, 3) := by decide +kernel
theorem d84_28 : decode (pg_code 84) 28 = .ok (.iconst (-1), 1) := by decide +kernel
theorem d84_29 : decode (pg_code 84) 29 = .ok (.ireturn, 1) := by decide +kernel
theorem d84_30 : decode (pg_code 84) 30 = .ok (.iload_n 2, 1) := by decide +kernel
theorem d84_31 : decode (pg_code 84) 31 = .ok (.iconst (-1), 1) := by decide +kernel
theorem d84_32 : decode (pg_code 84) 32 = .ok (.if_icmp .ne 15, 3) := by decide +kernel
theorem d84_35 : decode (pg_code 84) 35 = .ok (.aload_n 0, 1) := by decide +kernel
theorem d84_36 : decode (pg_code 84) 36 = .ok (.getfield 7, 3) := by decide +kernel
theorem d84_39 : decode (pg_code 84) 39 = .ok (.iload_n 1, 1) := by decide +kernel
theorem d84_40 : decode (pg_code 84) 40 = .ok (.iaload, 1) := by decide +kernel
theorem d84_41 : decode (pg_code 84) 41 = .ok (.ifCond .le 17, 3) := by decide +kernel
theorem d84_44 : decode (pg_code 84) 44 = .ok (.goto 12, 3) := by decide +kernel
theorem d84_47 : decode (pg_code 84) 47 = .ok (.aload_n 0, 1) := by decide +kernel
theorem d84_48 : decode (pg_code 84) 48 = .ok (.iload_n 1, 1) := by decide +kernel
theorem d84_49 : decode (pg_code 84) 49 = .ok (.iload_n 2, 1) := by decide +kernel
theorem d84_50 : decode (pg_code 84) 50 = .ok (.invokevirtual 117, 3) := by decide +kernel
theorem d84_53 : decode (pg_code 84) 53 = .ok (.ifCond .ne 5, 3) := by decide +kernel
theorem d84_56 : decode (pg_code 84) 56 = .ok (.iconst (-1), 1) := by decide +kernel
theorem d84_57 : decode (pg_code 84) 57 = .ok (.ireturn, 1) := by decide +kernel
theorem d84_58 : decode (pg_code 84) 58 = .ok (.bipush 12, 2) := by decide +kernel
theorem d84_60 : decode (pg_code 84) 60 = .ok (.iload_n 1, 1) := by decide +kernel
theorem d84_61 : decode (pg_code 84) 61 = .ok (.imul, 1) := by decide +kernel
theorem d84_62 : decode (pg_code 84) 62 = .ok (.aload_n 0, 1) := by decide +kernel
theorem d84_63 : decode (pg_code 84) 63 = .ok (.getfield 7, 3) := by decide +kernel
theorem d84_66 : decode (pg_code 84) 66 = .ok (.iload_n 1, 1) := by decide +kernel
theorem d84_67 : decode (pg_code 84) 67 = .ok (.iaload, 1) := by decide +kernel
theorem d84_68 : decode (pg_code 84) 68 = .ok (.iadd, 1) := by decide +kernel
theorem d84_69 : decode (pg_code 84) 69 = .ok (.istore 5, 2) := by decide +kernel
theorem d84_71 : decode (pg_code 84) 71 = .ok (.aload_n 0, 1) := by decide +kernel
theorem d84_72 : decode (pg_code 84) 72 = .ok (.getfield 13, 3) := by decide +kernel
theorem d84_75 : decode (pg_code 84) 75 = .ok (.iload 5, 2) := by decide +kernel
theorem d84_77 : decode (pg_code 84) 77 = .ok (.iload_n 2, 1) := by decide +kernel
theorem d84_78 : decode (pg_code 84) 78 = .ok (.iastore, 1) := by decide +kernel
theorem d84_79 : decode (pg_code 84) 79 = .ok (.aload_n 0, 1) := by decide +kernel
theorem d84_80 : decode (pg_code 84) 80 = .ok (.getfield 16, 3) := by decide +kernel
theorem d84_83 : decode (pg_code 84) 83 = .ok (.iload 5, 2) := by decide +kernel
theorem d84_85 : decode (pg_code 84) 85 = .ok (.iload_n 3, 1) := by decide +kernel
theorem d84_86 : decode (pg_code 84) 86 = .ok (.iastore, 1) := by decide +kernel
theorem d84_87 : decode (pg_code 84) 87 = .ok (.aload_n 0, 1) := by decide +kernel
theorem d84_88 : decode (pg_code 84) 88 = .ok (.getfield 19, 3) := by decide +kernel
theorem d84_91 : decode (pg_code 84) 91 = .ok (.iload 5, 2) := by decide +kernel
theorem d84_93 : decode (pg_code 84) 93 = .ok (.iload 4, 2) := by decide +kernel
theorem d84_95 : decode (pg_code 84) 95 = .ok (.iastore, 1) := by decide +kernel
theorem d84_96 : decode (pg_code 84) 96 = .ok (.aload_n 0, 1) := by decide +kernel
theorem d84_97 : decode (pg_code 84) 97 = .ok (.getfield 7, 3) := by decide +kernel
theorem d84_100 : decode (pg_code 84) 100 = .ok (.iload_n 1, 1) := by decide +kernel
theorem d84_101 : decode (pg_code 84) 101 = .ok (.dup2, 1) := by decide +kernel
theorem d84_102 : decode (pg_code 84) 102 = .ok (.iaload, 1) := by decide +kernel
theorem d84_103 : decode (pg_code 84) 103 = .ok (.iconst 1, 1) := by decide +kernel
theorem d84_104 : decode (pg_code 84) 104 = .ok (.iadd, 1) := by decide +kernel
theorem d84_105 : decode (pg_code 84) 105 = .ok (.iastore, 1) := by decide +kernel
theorem d84_106 : decode (pg_code 84) 106 = .ok (.aload_n 0, 1) := by decide +kernel
theorem d84_107 : decode (pg_code 84) 107 = .ok (.getfield 7, 3) := by decide +kernel
theorem d84_110 : decode (pg_code 84) 110 = .ok (.iload_n 1, 1) := by decide +kernel
theorem d84_111 : decode (pg_code 84) 111 = .ok (.iaload, 1) := by decide +kernel
theorem d84_112 : decode (pg_code 84) 112 = .ok (.iconst 1, 1) := by decide +kernel
theorem d84_113 : decode (pg_code 84) 113 = .ok (.isub, 1) := by decide +kernel
theorem d84_114 : decode (pg_code 84) 114 = .ok (.ireturn, 1) := by decide +kernel
theorem e84 {b1 b2 b3 b4 b5 : Value} : am_Call L xs d 84 [b1, b2, b3, b4, b5] σ Q = am_Rn L xs d 84 0 [b1, b2, b3, b4, b5, .retAddr 0] [] σ Q := rfl
theorem r84_0  : am_Rn L xs d 84 0 ls st σ Q = am_li ls 1 (fun x => am_Rn L xs d 84 1 ls (.int x :: st) σ Q) := am_r_iload_n d84_0
theorem r84_1 {a1 : Value} : am_Rn L xs (d + 1) 84 1 ls (a1 :: st) σ Q = ((st.length ≤ 4 ∧ am_ok a1 = true) ∧ am_Call L xs d 85 [a1] σ (fun r σ1 => am_Rn L xs (d + 1) 84 4 ls (r.toList ++ st) σ1 Q)) := am_R_static1 d84_1 rfl ⟨by decide, rfl⟩ rfl (by decide)
theorem r84_4 {a : Int32} : am_Rn L xs d 84 4 ls (.int a :: st) σ Q = if a = 0 then am_Rn L xs d 84 28 ls st σ Q else am_Rn L xs d 84 7 ls st σ Q := (am_r_if (t := 28) d84_4 (by decide)).trans (am_ite _ _ trivial (by simp only [am_cond, decide_eq_true_eq]))
theorem r84_7  : am_Rn L xs d 84 7 ls st σ Q = am_li ls 3 (fun x => am_Rn L xs d 84 8 ls (.int x :: st) σ Q) := am_r_iload_n d84_7
theorem r84_8 {a : Int32} : am_Rn L xs d 84 8 ls (.int a :: st) σ Q = if a < 0 then am_Rn L xs d 84 28 ls st σ Q else am_Rn L xs d 84 11 ls st σ Q := (am_r_if (t := 28) d84_8 (by decide)).trans (am_ite _ _ trivial (by simp only [am_cond, decide_eq_true_eq]))
theorem r84_11  : am_Rn L xs d 84 11 ls st σ Q = am_li ls 3 (fun x => am_Rn L xs d 84 12 ls (.int x :: st) σ Q) := am_r_iload_n d84_11
theorem r84_12  : am_Rn L xs d 84 12 ls st σ Q = am_Rn L xs d 84 14 ls (.int 7 :: st) σ Q := am_r_bipush d84_12 (by decide)
theorem r84_14 {a b : Int32} : am_Rn L xs d 84 14 ls (.int b :: .int a :: st) σ Q = if b < a then am_Rn L xs d 84 28 ls st σ Q else am_Rn L xs d 84 17 ls st σ Q := (am_r_icmp (t := 28) d84_14 (by decide)).trans (am_ite _ _ trivial (by simp only [am_cond, decide_eq_true_eq]))
theorem r84_17  : am_Rn L xs d 84 17 ls st σ Q = am_la ls 0 (fun x => am_Rn L xs d 84 18 ls (x :: st) σ Q) := am_r_aload_n d84_17
theorem r84_18 {p : Nat} : am_Rn L xs d 84 18 ls (.ref p :: st) σ Q = am_fd σ p 6 0 (fun v => am_Rn L xs d 84 21 ls (v :: st) σ Q) := am_r_getfield d84_18 rfl
theorem r84_21  : am_Rn L xs d 84 21 ls st σ Q = am_li ls 1 (fun x => am_Rn L xs d 84 22 ls (.int x :: st) σ Q) := am_r_iload_n d84_21
theorem r84_22 {p : Nat} {i : Int32} : am_Rn L xs d 84 22 ls (.int i :: .ref p :: st) σ Q = am_ai 0 σ p i (fun x => am_Rn L xs d 84 23 ls (.int x :: st) σ Q) := am_r_iaload d84_22
theorem r84_23  : am_Rn L xs d 84 23 ls st σ Q = am_Rn L xs d 84 25 ls (.int 12 :: st) σ Q := am_r_bipush d84_23 (by decide)
theorem r84_25 {a b : Int32} : am_Rn L xs d 84 25 ls (.int b :: .int a :: st) σ Q = if ¬ a = b then am_Rn L xs d 84 30 ls st σ Q else am_Rn L xs d 84 28 ls st σ Q := (am_r_icmp (t := 30) d84_25 (by decide)).trans (am_ite _ _ trivial (by simp only [am_cond, decide_eq_true_eq]))
theorem r84_28  : am_Rn L xs d 84 28 ls st σ Q = am_Rn L xs d 84 29 ls (.int (-1) :: st) σ Q := am_r_iconst d84_28 (by decide)
theorem r84_29 {v : Int32} : am_Rn L xs d 84 29 ls [.int v] σ Q = Q (some (.int v)) σ := am_r_ireturn d84_29 rfl
theorem r84_30  : am_Rn L xs d 84 30 ls st σ Q = am_li ls 2 (fun x => am_Rn L xs d 84 31 ls (.int x :: st) σ Q) := am_r_iload_n d84_30
theorem r84_31  : am_Rn L xs d 84 31 ls st σ Q = am_Rn L xs d 84 32 ls (.int (-1) :: st) σ Q := am_r_iconst d84_31 (by decide)
theorem r84_32 {a b : Int32} : am_Rn L xs d 84 32 ls (.int b :: .int a :: st) σ Q = if ¬ a = b then am_Rn L xs d 84 47 ls st σ Q else am_Rn L xs d 84 35 ls st σ Q := (am_r_icmp (t := 47) d84_32 (by decide)).trans (am_ite _ _ trivial (by simp only [am_cond, decide_eq_true_eq]))
theorem r84_35  : am_Rn L xs d 84 35 ls st σ Q = am_la ls 0 (fun x => am_Rn L xs d 84 36 ls (x :: st) σ Q) := am_r_aload_n d84_35
theorem r84_36 {p : Nat} : am_Rn L xs d 84 36 ls (.ref p :: st) σ Q = am_fd σ p 6 0 (fun v => am_Rn L xs d 84 39 ls (v :: st) σ Q) := am_r_getfield d84_36 rfl
theorem r84_39  : am_Rn L xs d 84 39 ls st σ Q = am_li ls 1 (fun x => am_Rn L xs d 84 40 ls (.int x :: st) σ Q) := am_r_iload_n d84_39
theorem r84_40 {p : Nat} {i : Int32} : am_Rn L xs d 84 40 ls (.int i :: .ref p :: st) σ Q = am_ai 0 σ p i (fun x => am_Rn L xs d 84 41 ls (.int x :: st) σ Q) := am_r_iaload d84_40
theorem r84_41 {a : Int32} : am_Rn L xs d 84 41 ls (.int a :: st) σ Q = if a ≤ 0 then am_Rn L xs d 84 58 ls st σ Q else am_Rn L xs d 84 44 ls st σ Q := (am_r_if (t := 58) d84_41 (by decide)).trans (am_ite _ _ trivial (by simp only [am_cond, decide_eq_true_eq]))
theorem r84_44  : am_Rn L xs d 84 44 ls st σ Q = am_Rn L xs d 84 56 ls st σ Q := am_r_goto d84_44 (by decide)
theorem r84_47  : am_Rn L xs d 84 47 ls st σ Q = am_la ls 0 (fun x => am_Rn L xs d 84 48 ls (x :: st) σ Q) := am_r_aload_n d84_47
theorem r84_48  : am_Rn L xs d 84 48 ls st σ Q = am_li ls 1 (fun x => am_Rn L xs d 84 49 ls (.int x :: st) σ Q) := am_r_iload_n d84_48
theorem r84_49  : am_Rn L xs d 84 49 ls st σ Q = am_li ls 2 (fun x => am_Rn L xs d 84 50 ls (.int x :: st) σ Q) := am_r_iload_n d84_49
theorem r84_50 {a1 a2 : Value} {p : Nat} : am_Rn L xs (d + 1) 84 50 ls (a2 :: a1 :: .ref p :: st) σ Q = ((am_oc σ p = 6 ∧ st.length ≤ 4 ∧ am_ok a1 = true ∧ am_ok a2 = true) ∧ am_Call L xs d 86 [.ref p, a1, a2] σ (fun r σ1 => am_Rn L xs (d + 1) 84 53 ls (r.toList ++ st) σ1 Q)) := am_R_virtual2 d84_50 rfl ⟨by decide, rfl⟩ rfl rfl (by decide)
theorem r84_53 {a : Int32} : am_Rn L xs d 84 53 ls (.int a :: st) σ Q = if ¬ a = 0 then am_Rn L xs d 84 58 ls st σ Q else am_Rn L xs d 84 56 ls st σ Q := (am_r_if (t := 58) d84_53 (by decide)).trans (am_ite _ _ trivial (by simp only [am_cond, decide_eq_true_eq]))
theorem r84_56  : am_Rn L xs d 84 56 ls st σ Q = am_Rn L xs d 84 57 ls (.int (-1) :: st) σ Q := am_r_iconst d84_56 (by decide)
theorem r84_57 {v : Int32} : am_Rn L xs d 84 57 ls [.int v] σ Q = Q (some (.int v)) σ := am_r_ireturn d84_57 rfl
theorem r84_58  : am_Rn L xs d 84 58 ls st σ Q = am_Rn L xs d 84 60 ls (.int 12 :: st) σ Q := am_r_bipush d84_58 (by decide)
theorem r84_60  : am_Rn L xs d 84 60 ls st σ Q = am_li ls 1 (fun x => am_Rn L xs d 84 61 ls (.int x :: st) σ Q) := am_r_iload_n d84_60
theorem r84_61 {a b : Int32} : am_Rn L xs d 84 61 ls (.int b :: .int a :: st) σ Q = am_Rn L xs d 84 62 ls (.int (a * b) :: st) σ Q := am_r_imul d84_61
theorem r84_62  : am_Rn L xs d 84 62 ls st σ Q = am_la ls 0 (fun x => am_Rn L xs d 84 63 ls (x :: st) σ Q) := am_r_aload_n d84_62
theorem r84_63 {p : Nat} : am_Rn L xs d 84 63 ls (.ref p :: st) σ Q = am_fd σ p 6 0 (fun v => am_Rn L xs d 84 66 ls (v :: st) σ Q) := am_r_getfield d84_63 rfl
theorem r84_66  : am_Rn L xs d 84 66 ls st σ Q = am_li ls 1 (fun x => am_Rn L xs d 84 67 ls (.int x :: st) σ Q) := am_r_iload_n d84_66
theorem r84_67 {p : Nat} {i : Int32} : am_Rn L xs d 84 67 ls (.int i :: .ref p :: st) σ Q = am_ai 0 σ p i (fun x => am_Rn L xs d 84 68 ls (.int x :: st) σ Q) := am_r_iaload d84_67
theorem r84_68 {a b : Int32} : am_Rn L xs d 84 68 ls (.int b :: .int a :: st) σ Q = am_Rn L xs d 84 69 ls (.int (a + b) :: st) σ Q := am_r_iadd d84_68
theorem r84_69 {x : Int32} : am_Rn L xs d 84 69 ls (.int x :: st) σ Q = (5 < ls.length ∧ am_Rn L xs d 84 71 (ls.set 5 (.int x)) st σ Q) := am_r_istore d84_69
theorem r84_71  : am_Rn L xs d 84 71 ls st σ Q = am_la ls 0 (fun x => am_Rn L xs d 84 72 ls (x :: st) σ Q) := am_r_aload_n d84_71
theorem r84_72 {p : Nat} : am_Rn L xs d 84 72 ls (.ref p :: st) σ Q = am_fd σ p 6 1 (fun v => am_Rn L xs d 84 75 ls (v :: st) σ Q) := am_r_getfield d84_72 rfl
theorem r84_75  : am_Rn L xs d 84 75 ls st σ Q = am_li ls 5 (fun x => am_Rn L xs d 84 77 ls (.int x :: st) σ Q) := am_r_iload d84_75
theorem r84_77  : am_Rn L xs d 84 77 ls st σ Q = am_li ls 2 (fun x => am_Rn L xs d 84 78 ls (.int x :: st) σ Q) := am_r_iload_n d84_77
theorem r84_78 {p : Nat} {i x : Int32} : am_Rn L xs d 84 78 ls (.int x :: .int i :: .ref p :: st) σ Q = am_wi 0 σ p i x (fun σ1 => am_Rn L xs d 84 79 ls st σ1 Q) := am_r_iastore d84_78
theorem r84_79  : am_Rn L xs d 84 79 ls st σ Q = am_la ls 0 (fun x => am_Rn L xs d 84 80 ls (x :: st) σ Q) := am_r_aload_n d84_79
theorem r84_80 {p : Nat} : am_Rn L xs d 84 80 ls (.ref p :: st) σ Q = am_fd σ p 6 2 (fun v => am_Rn L xs d 84 83 ls (v :: st) σ Q) := am_r_getfield d84_80 rfl
theorem r84_83  : am_Rn L xs d 84 83 ls st σ Q = am_li ls 5 (fun x => am_Rn L xs d 84 85 ls (.int x :: st) σ Q) := am_r_iload d84_83
theorem r84_85  : am_Rn L xs d 84 85 ls st σ Q = am_li ls 3 (fun x => am_Rn L xs d 84 86 ls (.int x :: st) σ Q) := am_r_iload_n d84_85
theorem r84_86 {p : Nat} {i x : Int32} : am_Rn L xs d 84 86 ls (.int x :: .int i :: .ref p :: st) σ Q = am_wi 0 σ p i x (fun σ1 => am_Rn L xs d 84 87 ls st σ1 Q) := am_r_iastore d84_86
theorem r84_87  : am_Rn L xs d 84 87 ls st σ Q = am_la ls 0 (fun x => am_Rn L xs d 84 88 ls (x :: st) σ Q) := am_r_aload_n d84_87
theorem r84_88 {p : Nat} : am_Rn L xs d 84 88 ls (.ref p :: st) σ Q = am_fd σ p 6 3 (fun v => am_Rn L xs d 84 91 ls (v :: st) σ Q) := am_r_getfield d84_88 rfl
theorem r84_91  : am_Rn L xs d 84 91 ls st σ Q = am_li ls 5 (fun x => am_Rn L xs d 84 93 ls (.int x :: st) σ Q) := am_r_iload d84_91
theorem r84_93  : am_Rn L xs d 84 93 ls st σ Q = am_li ls 4 (fun x => am_Rn L xs d 84 95 ls (.int x :: st) σ Q) := am_r_iload d84_93
theorem r84_95 {p : Nat} {i x : Int32} : am_Rn L xs d 84 95 ls (.int x :: .int i :: .ref p :: st) σ Q = am_wi 0 σ p i x (fun σ1 => am_Rn L xs d 84 96 ls st σ1 Q) := am_r_iastore d84_95
theorem r84_96  : am_Rn L xs d 84 96 ls st σ Q = am_la ls 0 (fun x => am_Rn L xs d 84 97 ls (x :: st) σ Q) := am_r_aload_n d84_96
theorem r84_97 {p : Nat} : am_Rn L xs d 84 97 ls (.ref p :: st) σ Q = am_fd σ p 6 0 (fun v => am_Rn L xs d 84 100 ls (v :: st) σ Q) := am_r_getfield d84_97 rfl
theorem r84_100  : am_Rn L xs d 84 100 ls st σ Q = am_li ls 1 (fun x => am_Rn L xs d 84 101 ls (.int x :: st) σ Q) := am_r_iload_n d84_100
theorem r84_101 {a b : Value} : am_Rn L xs d 84 101 ls (a :: b :: st) σ Q = ((am_ok a && am_ok b) = true ∧ am_Rn L xs d 84 102 ls (a :: b :: a :: b :: st) σ Q) := am_r_dup2 d84_101
theorem r84_102 {p : Nat} {i : Int32} : am_Rn L xs d 84 102 ls (.int i :: .ref p :: st) σ Q = am_ai 0 σ p i (fun x => am_Rn L xs d 84 103 ls (.int x :: st) σ Q) := am_r_iaload d84_102
theorem r84_103  : am_Rn L xs d 84 103 ls st σ Q = am_Rn L xs d 84 104 ls (.int 1 :: st) σ Q := am_r_iconst d84_103 (by decide)
theorem r84_104 {a b : Int32} : am_Rn L xs d 84 104 ls (.int b :: .int a :: st) σ Q = am_Rn L xs d 84 105 ls (.int (a + b) :: st) σ Q := am_r_iadd d84_104
theorem r84_105 {p : Nat} {i x : Int32} : am_Rn L xs d 84 105 ls (.int x :: .int i :: .ref p :: st) σ Q = am_wi 0 σ p i x (fun σ1 => am_Rn L xs d 84 106 ls st σ1 Q) := am_r_iastore d84_105
theorem r84_106  : am_Rn L xs d 84 106 ls st σ Q = am_la ls 0 (fun x => am_Rn L xs d 84 107 ls (x :: st) σ Q) := am_r_aload_n d84_106
theorem r84_107 {p : Nat} : am_Rn L xs d 84 107 ls (.ref p :: st) σ Q = am_fd σ p 6 0 (fun v => am_Rn L xs d 84 110 ls (v :: st) σ Q) := am_r_getfield d84_107 rfl
theorem r84_110  : am_Rn L xs d 84 110 ls st σ Q = am_li ls 1 (fun x => am_Rn L xs d 84 111 ls (.int x :: st) σ Q) := am_r_iload_n d84_110
theorem r84_111 {p : Nat} {i : Int32} : am_Rn L xs d 84 111 ls (.int i :: .ref p :: st) σ Q = am_ai 0 σ p i (fun x => am_Rn L xs d 84 112 ls (.int x :: st) σ Q) := am_r_iaload d84_111
theorem r84_112  : am_Rn L xs d 84 112 ls st σ Q = am_Rn L xs d 84 113 ls (.int 1 :: st) σ Q := am_r_iconst d84_112 (by decide)
theorem r84_113 {a b : Int32} : am_Rn L xs d 84 113 ls (.int b :: .int a :: st) σ Q = am_Rn L xs d 84 114 ls (.int (a - b) :: st) σ Q := am_r_isub d84_113
theorem r84_114 {v : Int32} : am_Rn L xs d 84 114 ls [.int v] σ Q = Q (some (.int v)) σ := am_r_ireturn d84_114 rfl
theorem d85_0 : decode (pg_code 85) 0 = .ok (.iload_n 0, 1) := by decide +kernel
theorem d85_1 : decode (pg_code 85) 1 = .ok (.ifCond .lt 12, 3) := by decide +kernel
theorem d85_4 : decode (pg_code 85) 4 = .ok (.iload_n 0, 1) := by decide +kernel
theorem d85_5 : decode (pg_code 85) 5 = .ok (.iconst 3, 1) := by decide +kernel
theorem d85_6 : decode (pg_code 85) 6 = .ok (.if_icmp .ge 7, 3) := by decide +kernel
theorem d85_9 : decode (pg_code 85) 9 = .ok (.iconst 1, 1) := by decide +kernel
theorem d85_10 : decode (pg_code 85) 10 = .ok (.goto 4, 3) := by decide +kernel
theorem d85_13 : decode (pg_code 85) 13 = .ok (.iconst 0, 1) := by decide +kernel
theorem d85_14 : decode (pg_code 85) 14 = .ok (.ireturn, 1) := by decide +kernel
theorem e85 {b1 : Value} : am_Call L xs d 85 [b1] σ Q = am_Rn L xs d 85 0 [b1] [] σ Q := rfl
theorem r85_0  : am_Rn L xs d 85 0 ls st σ Q = am_li ls 0 (fun x => am_Rn L xs d 85 1 ls (.int x :: st) σ Q) := am_r_iload_n d85_0
theorem r85_1 {a : Int32} : am_Rn L xs d 85 1 ls (.int a :: st) σ Q = if a < 0 then am_Rn L xs d 85 13 ls st σ Q else am_Rn L xs d 85 4 ls st σ Q := (am_r_if (t := 13) d85_1 (by decide)).trans (am_ite _ _ trivial (by simp only [am_cond, decide_eq_true_eq]))
theorem r85_4  : am_Rn L xs d 85 4 ls st σ Q = am_li ls 0 (fun x => am_Rn L xs d 85 5 ls (.int x :: st) σ Q) := am_r_iload_n d85_4
theorem r85_5  : am_Rn L xs d 85 5 ls st σ Q = am_Rn L xs d 85 6 ls (.int 3 :: st) σ Q := am_r_iconst d85_5 (by decide)
theorem r85_6 {a b : Int32} : am_Rn L xs d 85 6 ls (.int b :: .int a :: st) σ Q = if b ≤ a then am_Rn L xs d 85 13 ls st σ Q else am_Rn L xs d 85 9 ls st σ Q := (am_r_icmp (t := 13) d85_6 (by decide)).trans (am_ite _ _ trivial (by simp only [am_cond, decide_eq_true_eq]))
theorem r85_9  : am_Rn L xs d 85 9 ls st σ Q = am_Rn L xs d 85 10 ls (.int 1 :: st) σ Q := am_r_iconst d85_9 (by decide)
theorem r85_10  : am_Rn L xs d 85 10 ls st σ Q = am_Rn L xs d 85 14 ls st σ Q := am_r_goto d85_10 (by decide)
theorem r85_13  : am_Rn L xs d 85 13 ls st σ Q = am_Rn L xs d 85 14 ls (.int 0 :: st) σ Q := am_r_iconst d85_13 (by decide)
theorem r85_14 {v : Int32} (hv : v = 0 ∨ v = 1) : am_Rn L xs d 85 14 ls [.int v] σ Q = Q (some (.int v)) σ := am_r_zreturn d85_14 rfl hv
theorem d86_0 : decode (pg_code 86) 0 = .ok (.iload_n 1, 1) := by decide +kernel
theorem d86_1 : decode (pg_code 86) 1 = .ok (.invokestatic 113, 3) := by decide +kernel
theorem d86_4 : decode (pg_code 86) 4 = .ok (.ifCond .eq 21, 3) := by decide +kernel
theorem d86_7 : decode (pg_code 86) 7 = .ok (.iload_n 2, 1) := by decide +kernel
theorem d86_8 : decode (pg_code 86) 8 = .ok (.ifCond .lt 17, 3) := by decide +kernel
theorem d86_11 : decode (pg_code 86) 11 = .ok (.iload_n 2, 1) := by decide +kernel
theorem d86_12 : decode (pg_code 86) 12 = .ok (.aload_n 0, 1) := by decide +kernel
theorem d86_13 : decode (pg_code 86) 13 = .ok (.getfield 7, 3) := by decide +kernel
theorem d86_16 : decode (pg_code 86) 16 = .ok (.iload_n 1, 1) := by decide +kernel
theorem d86_17 : decode (pg_code 86) 17 = .ok (.iaload, 1) := by decide +kernel
theorem d86_18 : decode (pg_code 86) 18 = .ok (.if_icmp .ge 7, 3) := by decide +kernel
theorem d86_21 : decode (pg_code 86) 21 = .ok (.iconst 1, 1) := by decide +kernel
theorem d86_22 : decode (pg_code 86) 22 = .ok (.goto 4, 3) := by decide +kernel
theorem d86_25 : decode (pg_code 86) 25 = .ok (.iconst 0, 1) := by decide +kernel
theorem d86_26 : decode (pg_code 86) 26 = .ok (.ireturn, 1) := by decide +kernel
theorem e86 {b1 b2 b3 : Value} : am_Call L xs d 86 [b1, b2, b3] σ Q = am_Rn L xs d 86 0 [b1, b2, b3] [] σ Q := rfl
theorem r86_0  : am_Rn L xs d 86 0 ls st σ Q = am_li ls 1 (fun x => am_Rn L xs d 86 1 ls (.int x :: st) σ Q) := am_r_iload_n d86_0
theorem r86_1 {a1 : Value} : am_Rn L xs (d + 1) 86 1 ls (a1 :: st) σ Q = ((st.length ≤ 4 ∧ am_ok a1 = true) ∧ am_Call L xs d 85 [a1] σ (fun r σ1 => am_Rn L xs (d + 1) 86 4 ls (r.toList ++ st) σ1 Q)) := am_R_static1 d86_1 rfl ⟨by decide, rfl⟩ rfl (by decide)
theorem r86_4 {a : Int32} : am_Rn L xs d 86 4 ls (.int a :: st) σ Q = if a = 0 then am_Rn L xs d 86 25 ls st σ Q else am_Rn L xs d 86 7 ls st σ Q := (am_r_if (t := 25) d86_4 (by decide)).trans (am_ite _ _ trivial (by simp only [am_cond, decide_eq_true_eq]))
theorem r86_7  : am_Rn L xs d 86 7 ls st σ Q = am_li ls 2 (fun x => am_Rn L xs d 86 8 ls (.int x :: st) σ Q) := am_r_iload_n d86_7
theorem r86_8 {a : Int32} : am_Rn L xs d 86 8 ls (.int a :: st) σ Q = if a < 0 then am_Rn L xs d 86 25 ls st σ Q else am_Rn L xs d 86 11 ls st σ Q := (am_r_if (t := 25) d86_8 (by decide)).trans (am_ite _ _ trivial (by simp only [am_cond, decide_eq_true_eq]))
theorem r86_11  : am_Rn L xs d 86 11 ls st σ Q = am_li ls 2 (fun x => am_Rn L xs d 86 12 ls (.int x :: st) σ Q) := am_r_iload_n d86_11
theorem r86_12  : am_Rn L xs d 86 12 ls st σ Q = am_la ls 0 (fun x => am_Rn L xs d 86 13 ls (x :: st) σ Q) := am_r_aload_n d86_12
theorem r86_13 {p : Nat} : am_Rn L xs d 86 13 ls (.ref p :: st) σ Q = am_fd σ p 6 0 (fun v => am_Rn L xs d 86 16 ls (v :: st) σ Q) := am_r_getfield d86_13 rfl
theorem r86_16  : am_Rn L xs d 86 16 ls st σ Q = am_li ls 1 (fun x => am_Rn L xs d 86 17 ls (.int x :: st) σ Q) := am_r_iload_n d86_16
theorem r86_17 {p : Nat} {i : Int32} : am_Rn L xs d 86 17 ls (.int i :: .ref p :: st) σ Q = am_ai 0 σ p i (fun x => am_Rn L xs d 86 18 ls (.int x :: st) σ Q) := am_r_iaload d86_17
theorem r86_18 {a b : Int32} : am_Rn L xs d 86 18 ls (.int b :: .int a :: st) σ Q = if b ≤ a then am_Rn L xs d 86 25 ls st σ Q else am_Rn L xs d 86 21 ls st σ Q := (am_r_icmp (t := 25) d86_18 (by decide)).trans (am_ite _ _ trivial (by simp only [am_cond, decide_eq_true_eq]))
theorem r86_21  : am_Rn L xs d 86 21 ls st σ Q = am_Rn L xs d 86 22 ls (.int 1 :: st) σ Q := am_r_iconst d86_21 (by decide)
theorem r86_22  : am_Rn L xs d 86 22 ls st σ Q = am_Rn L xs d 86 26 ls st σ Q := am_r_goto d86_22 (by decide)
theorem r86_25  : am_Rn L xs d 86 25 ls st σ Q = am_Rn L xs d 86 26 ls (.int 0 :: st) σ Q := am_r_iconst d86_25 (by decide)
theorem r86_26 {v : Int32} (hv : v = 0 ∨ v = 1) : am_Rn L xs d 86 26 ls [.int v] σ Q = Q (some (.int v)) σ := am_r_zreturn d86_26 rfl hv
theorem d87_0 : decode (pg_code 87) 0 = .ok (.iload_n 1, 1) := by decide +kernel
theorem d87_1 : decode (pg_code 87) 1 = .ok (.invokestatic 113, 3) := by decide +kernel
theorem d87_4 : decode (pg_code 87) 4 = .ok (.ifCond .ne 5, 3) := by decide +kernel
theorem d87_7 : decode (pg_code 87) 7 = .ok (.iconst 0, 1) := by decide +kernel
theorem d87_8 : decode (pg_code 87) 8 = .ok (.ireturn, 1) := by decide +kernel
theorem d87_9 : decode (pg_code 87) 9 = .ok (.aload_n 0, 1) := by decide +kernel
theorem d87_10 : decode (pg_code 87) 10 = .ok (.getfield 7, 3) := by decide +kernel
theorem d87_13 : decode (pg_code 87) 13 = .ok (.iload_n 1, 1) := by decide +kernel
theorem d87_14 : decode (pg_code 87) 14 = .ok (.iconst 0, 1) := by decide +kernel
theorem d87_15 : decode (pg_code 87) 15 = .ok (.iastore, 1) := by decide +kernel
theorem d87_16 : decode (pg_code 87) 16 = .ok (.iconst 1, 1) := by decide +kernel
theorem d87_17 : decode (pg_code 87) 17 = .ok (.ireturn, 1) := by decide +kernel
theorem e87 {b1 b2 : Value} : am_Call L xs d 87 [b1, b2] σ Q = am_Rn L xs d 87 0 [b1, b2] [] σ Q := rfl
theorem r87_0  : am_Rn L xs d 87 0 ls st σ Q = am_li ls 1 (fun x => am_Rn L xs d 87 1 ls (.int x :: st) σ Q) := am_r_iload_n d87_0
theorem r87_1 {a1 : Value} : am_Rn L xs (d + 1) 87 1 ls (a1 :: st) σ Q = ((st.length ≤ 4 ∧ am_ok a1 = true) ∧ am_Call L xs d 85 [a1] σ (fun r σ1 => am_Rn L xs (d + 1) 87 4 ls (r.toList ++ st) σ1 Q)) := am_R_static1 d87_1 rfl ⟨by decide, rfl⟩ rfl (by decide)
theorem r87_4 {a : Int32} : am_Rn L xs d 87 4 ls (.int a :: st) σ Q = if ¬ a = 0 then am_Rn L xs d 87 9 ls st σ Q else am_Rn L xs d 87 7 ls st σ Q := (am_r_if (t := 9) d87_4 (by decide)).trans (am_ite _ _ trivial (by simp only [am_cond, decide_eq_true_eq]))
theorem r87_7  : am_Rn L xs d 87 7 ls st σ Q = am_Rn L xs d 87 8 ls (.int 0 :: st) σ Q := am_r_iconst d87_7 (by decide)
theorem r87_8 {v : Int32} (hv : v = 0 ∨ v = 1) : am_Rn L xs d 87 8 ls [.int v] σ Q = Q (some (.int v)) σ := am_r_zreturn d87_8 rfl hv
theorem r87_9  : am_Rn L xs d 87 9 ls st σ Q = am_la ls 0 (fun x => am_Rn L xs d 87 10 ls (x :: st) σ Q) := am_r_aload_n d87_9
theorem r87_10 {p : Nat} : am_Rn L xs d 87 10 ls (.ref p :: st) σ Q = am_fd σ p 6 0 (fun v => am_Rn L xs d 87 13 ls (v :: st) σ Q) := am_r_getfield d87_10 rfl
theorem r87_13  : am_Rn L xs d 87 13 ls st σ Q = am_li ls 1 (fun x => am_Rn L xs d 87 14 ls (.int x :: st) σ Q) := am_r_iload_n d87_13
theorem r87_14  : am_Rn L xs d 87 14 ls st σ Q = am_Rn L xs d 87 15 ls (.int 0 :: st) σ Q := am_r_iconst d87_14 (by decide)
theorem r87_15 {p : Nat} {i x : Int32} : am_Rn L xs d 87 15 ls (.int x :: .int i :: .ref p :: st) σ Q = am_wi 0 σ p i x (fun σ1 => am_Rn L xs d 87 16 ls st σ1 Q) := am_r_iastore d87_15
theorem r87_16  : am_Rn L xs d 87 16 ls st σ Q = am_Rn L xs d 87 17 ls (.int 1 :: st) σ Q := am_r_iconst d87_16 (by decide)
theorem r87_17 {v : Int32} (hv : v = 0 ∨ v = 1) : am_Rn L xs d 87 17 ls [.int v] σ Q = Q (some (.int v)) σ := am_r_zreturn d87_17 rfl hv
theorem d88_0 : decode (pg_code 88) 0 = .ok (.iload_n 1, 1) := by decide +kernel
theorem d88_1 : decode (pg_code 88) 1 = .ok (.invokestatic 113, 3) := by decide +kernel
theorem d88_4 : decode (pg_code 88) 4 = .ok (.ifCond .eq 12, 3) := by decide +kernel
theorem d88_7 : decode (pg_code 88) 7 = .ok (.aload_n 0, 1) := by decide +kernel
theorem d88_8 : decode (pg_code 88) 8 = .ok (.getfield 7, 3) := by decide +kernel
theorem d88_11 : decode (pg_code 88) 11 = .ok (.iload_n 1, 1) := by decide +kernel
theorem d88_12 : decode (pg_code 88) 12 = .ok (.iaload, 1) := by decide +kernel
theorem d88_13 : decode (pg_code 88) 13 = .ok (.goto 4, 3) := by decide +kernel
theorem d88_16 : decode (pg_code 88) 16 = .ok (.iconst (-1), 1) := by decide +kernel
theorem d88_17 : decode (pg_code 88) 17 = .ok (.ireturn, 1) := by decide +kernel
theorem e88 {b1 b2 : Value} : am_Call L xs d 88 [b1, b2] σ Q = am_Rn L xs d 88 0 [b1, b2] [] σ Q := rfl
theorem r88_0  : am_Rn L xs d 88 0 ls st σ Q = am_li ls 1 (fun x => am_Rn L xs d 88 1 ls (.int x :: st) σ Q) := am_r_iload_n d88_0
theorem r88_1 {a1 : Value} : am_Rn L xs (d + 1) 88 1 ls (a1 :: st) σ Q = ((st.length ≤ 4 ∧ am_ok a1 = true) ∧ am_Call L xs d 85 [a1] σ (fun r σ1 => am_Rn L xs (d + 1) 88 4 ls (r.toList ++ st) σ1 Q)) := am_R_static1 d88_1 rfl ⟨by decide, rfl⟩ rfl (by decide)
theorem r88_4 {a : Int32} : am_Rn L xs d 88 4 ls (.int a :: st) σ Q = if a = 0 then am_Rn L xs d 88 16 ls st σ Q else am_Rn L xs d 88 7 ls st σ Q := (am_r_if (t := 16) d88_4 (by decide)).trans (am_ite _ _ trivial (by simp only [am_cond, decide_eq_true_eq]))
theorem r88_7  : am_Rn L xs d 88 7 ls st σ Q = am_la ls 0 (fun x => am_Rn L xs d 88 8 ls (x :: st) σ Q) := am_r_aload_n d88_7
theorem r88_8 {p : Nat} : am_Rn L xs d 88 8 ls (.ref p :: st) σ Q = am_fd σ p 6 0 (fun v => am_Rn L xs d 88 11 ls (v :: st) σ Q) := am_r_getfield d88_8 rfl
theorem r88_11  : am_Rn L xs d 88 11 ls st σ Q = am_li ls 1 (fun x => am_Rn L xs d 88 12 ls (.int x :: st) σ Q) := am_r_iload_n d88_11
theorem r88_12 {p : Nat} {i : Int32} : am_Rn L xs d 88 12 ls (.int i :: .ref p :: st) σ Q = am_ai 0 σ p i (fun x => am_Rn L xs d 88 13 ls (.int x :: st) σ Q) := am_r_iaload d88_12
theorem r88_13  : am_Rn L xs d 88 13 ls st σ Q = am_Rn L xs d 88 17 ls st σ Q := am_r_goto d88_13 (by decide)
theorem r88_16  : am_Rn L xs d 88 16 ls st σ Q = am_Rn L xs d 88 17 ls (.int (-1) :: st) σ Q := am_r_iconst d88_16 (by decide)
theorem r88_17 {v : Int32} : am_Rn L xs d 88 17 ls [.int v] σ Q = Q (some (.int v)) σ := am_r_ireturn d88_17 rfl
theorem d89_0 : decode (pg_code 89) 0 = .ok (.aload_n 0, 1) := by decide +kernel
theorem d89_1 : decode (pg_code 89) 1 = .ok (.iload_n 1, 1) := by decide +kernel
theorem d89_2 : decode (pg_code 89) 2 = .ok (.iload_n 2, 1) := by decide +kernel
theorem d89_3 : decode (pg_code 89) 3 = .ok (.invokevirtual 117, 3) := by decide +kernel
theorem d89_6 : decode (pg_code 89) 6 = .ok (.ifCond .ne 5, 3) := by decide +kernel
theorem d89_9 : decode (pg_code 89) 9 = .ok (.iconst (-1), 1) := by decide +kernel
theorem d89_10 : decode (pg_code 89) 10 = .ok (.ireturn, 1) := by decide +kernel
theorem d89_11 : decode (pg_code 89) 11 = .ok (.iconst 1, 1) := by decide +kernel
theorem d89_12 : decode (pg_code 89) 12 = .ok (.istore_n 3, 1) := by decide +kernel
theorem d89_13 : decode (pg_code 89) 13 = .ok (.iload_n 2, 1) := by decide +kernel
theorem d89_14 : decode (pg_code 89) 14 = .ok (.iconst 1, 1) := by decide +kernel
theorem d89_15 : decode (pg_code 89) 15 = .ok (.iadd, 1) := by decide +kernel
theorem d89_16 : decode (pg_code 89) 16 = .ok (.istore 4, 2) := by decide +kernel
theorem d89_18 : decode (pg_code 89) 18 = .ok (.iload 4, 2) := by decide +kernel
theorem d89_20 : decode (pg_code 89) 20 = .ok (.aload_n 0, 1) := by decide +kernel
theorem d89_21 : decode (pg_code 89) 21 = .ok (.getfield 7, 3) := by decide +kernel
theorem d89_24 : decode (pg_code 89) 24 = .ok (.iload_n 1, 1) := by decide +kernel
theorem d89_25 : decode (pg_code 89) 25 = .ok (.iaload, 1) := by decide +kernel
theorem d89_26 : decode (pg_code 89) 26 = .ok (.if_icmp .ge 61, 3) := by decide +kernel
theorem d89_29 : decode (pg_code 89) 29 = .ok (.iconst 1, 1) := by decide +kernel
theorem d89_30 : decode (pg_code 89) 30 = .ok (.istore 5, 2) := by decide +kernel
theorem d89_32 : decode (pg_code 89) 32 = .ok (.iload 4, 2) := by decide +kernel
theorem d89_34 : decode (pg_code 89) 34 = .ok (.istore 6, 2) := by decide +kernel
theorem d89_36 : decode (pg_code 89) 36 = .ok (.iload 6, 2) := by decide +kernel
theorem d89_38 : decode (pg_code 89) 38 = .ok (.iload_n 2, 1) := by decide +kernel
theorem d89_39 : decode (pg_code 89) 39 = .ok (.if_icmp .le 23, 3) := by decide +kernel
theorem d89_42 : decode (pg_code 89) 42 = .ok (.aload_n 0, 1) := by decide +kernel
theorem d89_43 : decode (pg_code 89) 43 = .ok (.getfield 13, 3) := by decide +kernel
theorem d89_46 : decode (pg_code 89) 46 = .ok (.bipush 12, 2) := by decide +kernel
theorem d89_48 : decode (pg_code 89) 48 = .ok (.iload_n 1, 1) := by decide +kernel
theorem d89_49 : decode (pg_code 89) 49 = .ok (.imul, 1) := by decide +kernel
theorem d89_50 : decode (pg_code 89) 50 = .ok (.iload 6, 2) := by decide +kernel
theorem d89_52 : decode (pg_code 89) 52 = .ok (.iadd, 1) := by decide +kernel
theorem d89_53 : decode (pg_code 89) 53 = .ok (.iaload, 1) := by decide +kernel
theorem d89_54 : decode (pg_code 89) 54 = .ok (.istore 6, 2) := by decide +kernel
theorem d89_56 : decode (pg_code 89) 56 = .ok (.iinc 5 1, 3) := by decide +kernel
theorem d89_59 : decode (pg_code 89) 59 = .ok (.goto (-23), 3) := by decide +kernel
theorem d89_62 : decode (pg_code 89) 62 = .ok (.iload 6, 2) := by decide +kernel
theorem d89_64 : decode (pg_code 89) 64 = .ok (.iload_n 2, 1) := by decide +kernel
theorem d89_65 : decode (pg_code 89) 65 = .ok (.if_icmp .ne 14, 3) := by decide +kernel
theorem d89_68 : decode (pg_code 89) 68 = .ok (.iload 5, 2) := by decide +kernel
theorem d89_70 : decode (pg_code 89) 70 = .ok (.iload_n 3, 1) := by decide +kernel
theorem d89_71 : decode (pg_code 89) 71 = .ok (.if_icmp .le 8, 3) := by decide +kernel
theorem d89_74 : decode (pg_code 89) 74 = .ok (.iload 5, 2) := by decide +kernel
theorem d89_76 : decode (pg_code 89) 76 = .ok (.goto 4, 3) := by decide +kernel
theorem d89_79 : decode (pg_code 89) 79 = .ok (.iload_n 3, 1) := by decide +kernel
theorem d89_80 : decode (pg_code 89) 80 = .ok (.istore_n 3, 1) := by decide +kernel
theorem d89_81 : decode (pg_code 89) 81 = .ok (.iinc 4 1, 3) := by decide +kernel
theorem d89_84 : decode (pg_code 89) 84 = .ok (.goto (-66), 3) := by decide +kernel
theorem d89_87 : decode (pg_code 89) 87 = .ok (.iload_n 3, 1) := by decide +kernel
theorem d89_88 : decode (pg_code 89) 88 = .ok (.ireturn, 1) := by decide +kernel
theorem e89 {b1 b2 b3 : Value} : am_Call L xs d 89 [b1, b2, b3] σ Q = am_Rn L xs d 89 0 [b1, b2, b3, .retAddr 0, .retAddr 0, .retAddr 0, .retAddr 0] [] σ Q := rfl
theorem r89_0  : am_Rn L xs d 89 0 ls st σ Q = am_la ls 0 (fun x => am_Rn L xs d 89 1 ls (x :: st) σ Q) := am_r_aload_n d89_0
theorem r89_1  : am_Rn L xs d 89 1 ls st σ Q = am_li ls 1 (fun x => am_Rn L xs d 89 2 ls (.int x :: st) σ Q) := am_r_iload_n d89_1
theorem r89_2  : am_Rn L xs d 89 2 ls st σ Q = am_li ls 2 (fun x => am_Rn L xs d 89 3 ls (.int x :: st) σ Q) := am_r_iload_n d89_2
theorem r89_3 {a1 a2 : Value} {p : Nat} : am_Rn L xs (d + 1) 89 3 ls (a2 :: a1 :: .ref p :: st) σ Q = ((am_oc σ p = 6 ∧ st.length ≤ 4 ∧ am_ok a1 = true ∧ am_ok a2 = true) ∧ am_Call L xs d 86 [.ref p, a1, a2] σ (fun r σ1 => am_Rn L xs (d + 1) 89 6 ls (r.toList ++ st) σ1 Q)) := am_R_virtual2 d89_3 rfl ⟨by decide, rfl⟩ rfl rfl (by decide)
theorem r89_6 {a : Int32} : am_Rn L xs d 89 6 ls (.int a :: st) σ Q = if ¬ a = 0 then am_Rn L xs d 89 11 ls st σ Q else am_Rn L xs d 89 9 ls st σ Q := (am_r_if (t := 11) d89_6 (by decide)).trans (am_ite _ _ trivial (by simp only [am_cond, decide_eq_true_eq]))
theorem r89_9  : am_Rn L xs d 89 9 ls st σ Q = am_Rn L xs d 89 10 ls (.int (-1) :: st) σ Q := am_r_iconst d89_9 (by decide)
theorem r89_10 {v : Int32} : am_Rn L xs d 89 10 ls [.int v] σ Q = Q (some (.int v)) σ := am_r_ireturn d89_10 rfl
theorem r89_11  : am_Rn L xs d 89 11 ls st σ Q = am_Rn L xs d 89 12 ls (.int 1 :: st) σ Q := am_r_iconst d89_11 (by decide)
theorem r89_12 {x : Int32} : am_Rn L xs d 89 12 ls (.int x :: st) σ Q = (3 < ls.length ∧ am_Rn L xs d 89 13 (ls.set 3 (.int x)) st σ Q) := am_r_istore_n d89_12
theorem r89_13  : am_Rn L xs d 89 13 ls st σ Q = am_li ls 2 (fun x => am_Rn L xs d 89 14 ls (.int x :: st) σ Q) := am_r_iload_n d89_13
theorem r89_14  : am_Rn L xs d 89 14 ls st σ Q = am_Rn L xs d 89 15 ls (.int 1 :: st) σ Q := am_r_iconst d89_14 (by decide)
theorem r89_15 {a b : Int32} : am_Rn L xs d 89 15 ls (.int b :: .int a :: st) σ Q = am_Rn L xs d 89 16 ls (.int (a + b) :: st) σ Q := am_r_iadd d89_15
theorem r89_16 {x : Int32} : am_Rn L xs d 89 16 ls (.int x :: st) σ Q = (4 < ls.length ∧ am_Rn L xs d 89 18 (ls.set 4 (.int x)) st σ Q) := am_r_istore d89_16
theorem r89_18  : am_Rn L xs d 89 18 ls st σ Q = am_li ls 4 (fun x => am_Rn L xs d 89 20 ls (.int x :: st) σ Q) := am_r_iload d89_18
theorem r89_20  : am_Rn L xs d 89 20 ls st σ Q = am_la ls 0 (fun x => am_Rn L xs d 89 21 ls (x :: st) σ Q) := am_r_aload_n d89_20
theorem r89_21 {p : Nat} : am_Rn L xs d 89 21 ls (.ref p :: st) σ Q = am_fd σ p 6 0 (fun v => am_Rn L xs d 89 24 ls (v :: st) σ Q) := am_r_getfield d89_21 rfl
theorem r89_24  : am_Rn L xs d 89 24 ls st σ Q = am_li ls 1 (fun x => am_Rn L xs d 89 25 ls (.int x :: st) σ Q) := am_r_iload_n d89_24
theorem r89_25 {p : Nat} {i : Int32} : am_Rn L xs d 89 25 ls (.int i :: .ref p :: st) σ Q = am_ai 0 σ p i (fun x => am_Rn L xs d 89 26 ls (.int x :: st) σ Q) := am_r_iaload d89_25
theorem r89_26 {a b : Int32} : am_Rn L xs d 89 26 ls (.int b :: .int a :: st) σ Q = if b ≤ a then am_Rn L xs d 89 87 ls st σ Q else am_Rn L xs d 89 29 ls st σ Q := (am_r_icmp (t := 87) d89_26 (by decide)).trans (am_ite _ _ trivial (by simp only [am_cond, decide_eq_true_eq]))
theorem r89_29  : am_Rn L xs d 89 29 ls st σ Q = am_Rn L xs d 89 30 ls (.int 1 :: st) σ Q := am_r_iconst d89_29 (by decide)
theorem r89_30 {x : Int32} : am_Rn L xs d 89 30 ls (.int x :: st) σ Q = (5 < ls.length ∧ am_Rn L xs d 89 32 (ls.set 5 (.int x)) st σ Q) := am_r_istore d89_30
theorem r89_32  : am_Rn L xs d 89 32 ls st σ Q = am_li ls 4 (fun x => am_Rn L xs d 89 34 ls (.int x :: st) σ Q) := am_r_iload d89_32
theorem r89_34 {x : Int32} : am_Rn L xs d 89 34 ls (.int x :: st) σ Q = (6 < ls.length ∧ am_Rn L xs d 89 36 (ls.set 6 (.int x)) st σ Q) := am_r_istore d89_34
theorem r89_36  : am_Rn L xs d 89 36 ls st σ Q = am_li ls 6 (fun x => am_Rn L xs d 89 38 ls (.int x :: st) σ Q) := am_r_iload d89_36
theorem r89_38  : am_Rn L xs d 89 38 ls st σ Q = am_li ls 2 (fun x => am_Rn L xs d 89 39 ls (.int x :: st) σ Q) := am_r_iload_n d89_38
theorem r89_39 {a b : Int32} : am_Rn L xs d 89 39 ls (.int b :: .int a :: st) σ Q = if a ≤ b then am_Rn L xs d 89 62 ls st σ Q else am_Rn L xs d 89 42 ls st σ Q := (am_r_icmp (t := 62) d89_39 (by decide)).trans (am_ite _ _ trivial (by simp only [am_cond, decide_eq_true_eq]))
theorem r89_42  : am_Rn L xs d 89 42 ls st σ Q = am_la ls 0 (fun x => am_Rn L xs d 89 43 ls (x :: st) σ Q) := am_r_aload_n d89_42
theorem r89_43 {p : Nat} : am_Rn L xs d 89 43 ls (.ref p :: st) σ Q = am_fd σ p 6 1 (fun v => am_Rn L xs d 89 46 ls (v :: st) σ Q) := am_r_getfield d89_43 rfl
theorem r89_46  : am_Rn L xs d 89 46 ls st σ Q = am_Rn L xs d 89 48 ls (.int 12 :: st) σ Q := am_r_bipush d89_46 (by decide)
theorem r89_48  : am_Rn L xs d 89 48 ls st σ Q = am_li ls 1 (fun x => am_Rn L xs d 89 49 ls (.int x :: st) σ Q) := am_r_iload_n d89_48
theorem r89_49 {a b : Int32} : am_Rn L xs d 89 49 ls (.int b :: .int a :: st) σ Q = am_Rn L xs d 89 50 ls (.int (a * b) :: st) σ Q := am_r_imul d89_49
theorem r89_50  : am_Rn L xs d 89 50 ls st σ Q = am_li ls 6 (fun x => am_Rn L xs d 89 52 ls (.int x :: st) σ Q) := am_r_iload d89_50
theorem r89_52 {a b : Int32} : am_Rn L xs d 89 52 ls (.int b :: .int a :: st) σ Q = am_Rn L xs d 89 53 ls (.int (a + b) :: st) σ Q := am_r_iadd d89_52
theorem r89_53 {p : Nat} {i : Int32} : am_Rn L xs d 89 53 ls (.int i :: .ref p :: st) σ Q = am_ai 0 σ p i (fun x => am_Rn L xs d 89 54 ls (.int x :: st) σ Q) := am_r_iaload d89_53
theorem r89_54 {x : Int32} : am_Rn L xs d 89 54 ls (.int x :: st) σ Q = (6 < ls.length ∧ am_Rn L xs d 89 56 (ls.set 6 (.int x)) st σ Q) := am_r_istore d89_54
theorem r89_56  : am_Rn L xs d 89 56 ls st σ Q = am_li ls 5 (fun x => am_Rn L xs d 89 59 (ls.set 5 (.int (x + 1))) st σ Q) := am_r_iinc d89_56 (by decide)
theorem r89_59  : am_Rn L xs d 89 59 ls st σ Q = am_Rn L xs d 89 36 ls st σ Q := am_r_goto d89_59 (by decide)
theorem r89_62  : am_Rn L xs d 89 62 ls st σ Q = am_li ls 6 (fun x => am_Rn L xs d 89 64 ls (.int x :: st) σ Q) := am_r_iload d89_62
theorem r89_64  : am_Rn L xs d 89 64 ls st σ Q = am_li ls 2 (fun x => am_Rn L xs d 89 65 ls (.int x :: st) σ Q) := am_r_iload_n d89_64
theorem r89_65 {a b : Int32} : am_Rn L xs d 89 65 ls (.int b :: .int a :: st) σ Q = if ¬ a = b then am_Rn L xs d 89 79 ls st σ Q else am_Rn L xs d 89 68 ls st σ Q := (am_r_icmp (t := 79) d89_65 (by decide)).trans (am_ite _ _ trivial (by simp only [am_cond, decide_eq_true_eq]))
theorem r89_68  : am_Rn L xs d 89 68 ls st σ Q = am_li ls 5 (fun x => am_Rn L xs d 89 70 ls (.int x :: st) σ Q) := am_r_iload d89_68
theorem r89_70  : am_Rn L xs d 89 70 ls st σ Q = am_li ls 3 (fun x => am_Rn L xs d 89 71 ls (.int x :: st) σ Q) := am_r_iload_n d89_70
theorem r89_71 {a b : Int32} : am_Rn L xs d 89 71 ls (.int b :: .int a :: st) σ Q = if a ≤ b then am_Rn L xs d 89 79 ls st σ Q else am_Rn L xs d 89 74 ls st σ Q := (am_r_icmp (t := 79) d89_71 (by decide)).trans (am_ite _ _ trivial (by simp only [am_cond, decide_eq_true_eq]))
theorem r89_74  : am_Rn L xs d 89 74 ls st σ Q = am_li ls 5 (fun x => am_Rn L xs d 89 76 ls (.int x :: st) σ Q) := am_r_iload d89_74
theorem r89_76  : am_Rn L xs d 89 76 ls st σ Q = am_Rn L xs d 89 80 ls st σ Q := am_r_goto d89_76 (by decide)
theorem r89_79  : am_Rn L xs d 89 79 ls st σ Q = am_li ls 3 (fun x => am_Rn L xs d 89 80 ls (.int x :: st) σ Q) := am_r_iload_n d89_79
theorem r89_80 {x : Int32} : am_Rn L xs d 89 80 ls (.int x :: st) σ Q = (3 < ls.length ∧ am_Rn L xs d 89 81 (ls.set 3 (.int x)) st σ Q) := am_r_istore_n d89_80
theorem r89_81  : am_Rn L xs d 89 81 ls st σ Q = am_li ls 4 (fun x => am_Rn L xs d 89 84 (ls.set 4 (.int (x + 1))) st σ Q) := am_r_iinc d89_81 (by decide)
theorem r89_84  : am_Rn L xs d 89 84 ls st σ Q = am_Rn L xs d 89 18 ls st σ Q := am_r_goto d89_84 (by decide)
theorem r89_87  : am_Rn L xs d 89 87 ls st σ Q = am_li ls 3 (fun x => am_Rn L xs d 89 88 ls (.int x :: st) σ Q) := am_r_iload_n d89_87
theorem r89_88 {v : Int32} : am_Rn L xs d 89 88 ls [.int v] σ Q = Q (some (.int v)) σ := am_r_ireturn d89_88 rfl
theorem d90_0 : decode (pg_code 90) 0 = .ok (.aload_n 0, 1) := by decide +kernel
theorem d90_1 : decode (pg_code 90) 1 = .ok (.iload_n 1, 1) := by decide +kernel
theorem d90_2 : decode (pg_code 90) 2 = .ok (.iload_n 2, 1) := by decide +kernel
theorem d90_3 : decode (pg_code 90) 3 = .ok (.invokevirtual 117, 3) := by decide +kernel
theorem d90_6 : decode (pg_code 90) 6 = .ok (.ifCond .eq 13, 3) := by decide +kernel
theorem d90_9 : decode (pg_code 90) 9 = .ok (.aload_n 0, 1) := by decide +kernel
theorem d90_10 : decode (pg_code 90) 10 = .ok (.iload_n 3, 1) := by decide +kernel
theorem d90_11 : decode (pg_code 90) 11 = .ok (.iload 4, 2) := by decide +kernel
theorem d90_13 : decode (pg_code 90) 13 = .ok (.invokevirtual 117, 3) := by decide +kernel
theorem d90_16 : decode (pg_code 90) 16 = .ok (.ifCond .ne 5, 3) := by decide +kernel
theorem d90_19 : decode (pg_code 90) 19 = .ok (.iconst 0, 1) := by decide +kernel
theorem d90_20 : decode (pg_code 90) 20 = .ok (.ireturn, 1) := by decide +kernel
theorem d90_21 : decode (pg_code 90) 21 = .ok (.aload_n 0, 1) := by decide +kernel
theorem d90_22 : decode (pg_code 90) 22 = .ok (.iload_n 1, 1) := by decide +kernel
theorem d90_23 : decode (pg_code 90) 23 = .ok (.iload_n 3, 1) := by decide +kernel
theorem d90_24 : decode (pg_code 90) 24 = .ok (.invokevirtual 125, 3) := by decide +kernel
theorem d90_27 : decode (pg_code 90) 27 = .ok (.aload_n 0, 1) := by decide +kernel
theorem d90_28 : decode (pg_code 90) 28 = .ok (.getfield 28, 3) := by decide +kernel
theorem d90_31 : decode (pg_code 90) 31 = .ok (.bipush 12, 2) := by decide +kernel
theorem d90_33 : decode (pg_code 90) 33 = .ok (.iload_n 2, 1) := by decide +kernel
theorem d90_34 : decode (pg_code 90) 34 = .ok (.imul, 1) := by decide +kernel
theorem d90_35 : decode (pg_code 90) 35 = .ok (.iload 4, 2) := by decide +kernel
theorem d90_37 : decode (pg_code 90) 37 = .ok (.iadd, 1) := by decide +kernel
theorem d90_38 : decode (pg_code 90) 38 = .ok (.baload, 1) := by decide +kernel
theorem d90_39 : decode (pg_code 90) 39 = .ok (.ireturn, 1) := by decide +kernel
theorem e90 {b1 b2 b3 b4 b5 : Value} : am_Call L xs d 90 [b1, b2, b3, b4, b5] σ Q = am_Rn L xs d 90 0 [b1, b2, b3, b4, b5] [] σ Q := rfl
theorem r90_0  : am_Rn L xs d 90 0 ls st σ Q = am_la ls 0 (fun x => am_Rn L xs d 90 1 ls (x :: st) σ Q) := am_r_aload_n d90_0
theorem r90_1  : am_Rn L xs d 90 1 ls st σ Q = am_li ls 1 (fun x => am_Rn L xs d 90 2 ls (.int x :: st) σ Q) := am_r_iload_n d90_1
theorem r90_2  : am_Rn L xs d 90 2 ls st σ Q = am_li ls 2 (fun x => am_Rn L xs d 90 3 ls (.int x :: st) σ Q) := am_r_iload_n d90_2
theorem r90_3 {a1 a2 : Value} {p : Nat} : am_Rn L xs (d + 1) 90 3 ls (a2 :: a1 :: .ref p :: st) σ Q = ((am_oc σ p = 6 ∧ st.length ≤ 4 ∧ am_ok a1 = true ∧ am_ok a2 = true) ∧ am_Call L xs d 86 [.ref p, a1, a2] σ (fun r σ1 => am_Rn L xs (d + 1) 90 6 ls (r.toList ++ st) σ1 Q)) := am_R_virtual2 d90_3 rfl ⟨by decide, rfl⟩ rfl rfl (by decide)
theorem r90_6 {a : Int32} : am_Rn L xs d 90 6 ls (.int a :: st) σ Q = if a = 0 then am_Rn L xs d 90 19 ls st σ Q else am_Rn L xs d 90 9 ls st σ Q := (am_r_if (t := 19) d90_6 (by decide)).trans (am_ite _ _ trivial (by simp only [am_cond, decide_eq_true_eq]))
theorem r90_9  : am_Rn L xs d 90 9 ls st σ Q = am_la ls 0 (fun x => am_Rn L xs d 90 10 ls (x :: st) σ Q) := am_r_aload_n d90_9
theorem r90_10  : am_Rn L xs d 90 10 ls st σ Q = am_li ls 3 (fun x => am_Rn L xs d 90 11 ls (.int x :: st) σ Q) := am_r_iload_n d90_10
theorem r90_11  : am_Rn L xs d 90 11 ls st σ Q = am_li ls 4 (fun x => am_Rn L xs d 90 13 ls (.int x :: st) σ Q) := am_r_iload d90_11
theorem r90_13 {a1 a2 : Value} {p : Nat} : am_Rn L xs (d + 1) 90 13 ls (a2 :: a1 :: .ref p :: st) σ Q = ((am_oc σ p = 6 ∧ st.length ≤ 4 ∧ am_ok a1 = true ∧ am_ok a2 = true) ∧ am_Call L xs d 86 [.ref p, a1, a2] σ (fun r σ1 => am_Rn L xs (d + 1) 90 16 ls (r.toList ++ st) σ1 Q)) := am_R_virtual2 d90_13 rfl ⟨by decide, rfl⟩ rfl rfl (by decide)
theorem r90_16 {a : Int32} : am_Rn L xs d 90 16 ls (.int a :: st) σ Q = if ¬ a = 0 then am_Rn L xs d 90 21 ls st σ Q else am_Rn L xs d 90 19 ls st σ Q := (am_r_if (t := 21) d90_16 (by decide)).trans (am_ite _ _ trivial (by simp only [am_cond, decide_eq_true_eq]))
theorem r90_19  : am_Rn L xs d 90 19 ls st σ Q = am_Rn L xs d 90 20 ls (.int 0 :: st) σ Q := am_r_iconst d90_19 (by decide)
theorem r90_20 {v : Int32} (hv : v = 0 ∨ v = 1) : am_Rn L xs d 90 20 ls [.int v] σ Q = Q (some (.int v)) σ := am_r_zreturn d90_20 rfl hv
theorem r90_21  : am_Rn L xs d 90 21 ls st σ Q = am_la ls 0 (fun x => am_Rn L xs d 90 22 ls (x :: st) σ Q) := am_r_aload_n d90_21
theorem r90_22  : am_Rn L xs d 90 22 ls st σ Q = am_li ls 1 (fun x => am_Rn L xs d 90 23 ls (.int x :: st) σ Q) := am_r_iload_n d90_22
theorem r90_23  : am_Rn L xs d 90 23 ls st σ Q = am_li ls 3 (fun x => am_Rn L xs d 90 24 ls (.int x :: st) σ Q) := am_r_iload_n d90_23
theorem r90_24 {a1 a2 : Value} {p : Nat} : am_Rn L xs (d + 1) 90 24 ls (a2 :: a1 :: .ref p :: st) σ Q = ((am_oc σ p = 6 ∧ st.length ≤ 4 ∧ am_ok a1 = true ∧ am_ok a2 = true) ∧ am_Call L xs d 91 [.ref p, a1, a2] σ (fun r σ1 => am_Rn L xs (d + 1) 90 27 ls (r.toList ++ st) σ1 Q)) := am_R_virtual2 d90_24 rfl ⟨by decide, rfl⟩ rfl rfl (by decide)
theorem r90_27  : am_Rn L xs d 90 27 ls st σ Q = am_la ls 0 (fun x => am_Rn L xs d 90 28 ls (x :: st) σ Q) := am_r_aload_n d90_27
theorem r90_28 {p : Nat} : am_Rn L xs d 90 28 ls (.ref p :: st) σ Q = am_fd σ p 6 6 (fun v => am_Rn L xs d 90 31 ls (v :: st) σ Q) := am_r_getfield d90_28 rfl
theorem r90_31  : am_Rn L xs d 90 31 ls st σ Q = am_Rn L xs d 90 33 ls (.int 12 :: st) σ Q := am_r_bipush d90_31 (by decide)
theorem r90_33  : am_Rn L xs d 90 33 ls st σ Q = am_li ls 2 (fun x => am_Rn L xs d 90 34 ls (.int x :: st) σ Q) := am_r_iload_n d90_33
theorem r90_34 {a b : Int32} : am_Rn L xs d 90 34 ls (.int b :: .int a :: st) σ Q = am_Rn L xs d 90 35 ls (.int (a * b) :: st) σ Q := am_r_imul d90_34
theorem r90_35  : am_Rn L xs d 90 35 ls st σ Q = am_li ls 4 (fun x => am_Rn L xs d 90 37 ls (.int x :: st) σ Q) := am_r_iload d90_35
theorem r90_37 {a b : Int32} : am_Rn L xs d 90 37 ls (.int b :: .int a :: st) σ Q = am_Rn L xs d 90 38 ls (.int (a + b) :: st) σ Q := am_r_iadd d90_37
theorem r90_38 {p : Nat} {i : Int32} : am_Rn L xs d 90 38 ls (.int i :: .ref p :: st) σ Q = am_ai 1 σ p i (fun x => am_Rn L xs d 90 39 ls (.int x :: st) σ Q) := am_r_baload d90_38
theorem r90_39 {v : Int32} (hv : v = 0 ∨ v = 1) : am_Rn L xs d 90 39 ls [.int v] σ Q = Q (some (.int v)) σ := am_r_zreturn d90_39 rfl hv
theorem d91_0 : decode (pg_code 91) 0 = .ok (.aload_n 0, 1) := by decide +kernel
theorem d91_1 : decode (pg_code 91) 1 = .ok (.getfield 7, 3) := by decide +kernel
theorem d91_4 : decode (pg_code 91) 4 = .ok (.iload_n 1, 1) := by decide +kernel
theorem d91_5 : decode (pg_code 91) 5 = .ok (.iaload, 1) := by decide +kernel
theorem d91_6 : decode (pg_code 91) 6 = .ok (.iconst 1, 1) := by decide +kernel
theorem d91_7 : decode (pg_code 91) 7 = .ok (.isub, 1) := by decide +kernel
theorem d91_8 : decode (pg_code 91) 8 = .ok (.istore_n 3, 1) := by decide +kernel
theorem d91_9 : decode (pg_code 91) 9 = .ok (.iload_n 3, 1) := by decide +kernel
theorem d91_10 : decode (pg_code 91) 10 = .ok (.ifCond .lt 207, 3) := by decide +kernel
theorem d91_13 : decode (pg_code 91) 13 = .ok (.aload_n 0, 1) := by decide +kernel
theorem d91_14 : decode (pg_code 91) 14 = .ok (.getfield 7, 3) := by decide +kernel
theorem d91_17 : decode (pg_code 91) 17 = .ok (.iload_n 2, 1) := by decide +kernel
theorem d91_18 : decode (pg_code 91) 18 = .ok (.iaload, 1) := by decide +kernel
theorem d91_19 : decode (pg_code 91) 19 = .ok (.iconst 1, 1) := by decide +kernel
theorem d91_20 : decode (pg_code 91) 20 = .ok (.isub, 1) := by decide +kernel
theorem d91_21 : decode (pg_code 91) 21 = .ok (.istore 4, 2) := by decide +kernel
theorem d91_23 : decode (pg_code 91) 23 = .ok (.iload 4, 2) := by decide +kernel
theorem d91_25 : decode (pg_code 91) 25 = .ok (.ifCond .lt 186, 3) := by decide +kernel
theorem d91_28 : decode (pg_code 91) 28 = .ok (.aload_n 0, 1) := by decide +kernel
theorem d91_29 : decode (pg_code 91) 29 = .ok (.getfield 16, 3) := by decide +kernel
theorem d91_32 : decode (pg_code 91) 32 = .ok (.bipush 12, 2) := by decide +kernel
theorem d91_34 : decode (pg_code 91) 34 = .ok (.iload_n 1, 1) := by decide +kernel
theorem d91_35 : decode (pg_code 91) 35 = .ok (.imul, 1) := by decide +kernel
theorem d91_36 : decode (pg_code 91) 36 = .ok (.iload_n 3, 1) := by decide +kernel
theorem d91_37 : decode (pg_code 91) 37 = .ok (.iadd, 1) := by decide +kernel
theorem d91_38 : decode (pg_code 91) 38 = .ok (.iaload, 1) := by decide +kernel
theorem d91_39 : decode (pg_code 91) 39 = .ok (.aload_n 0, 1) := by decide +kernel
theorem d91_40 : decode (pg_code 91) 40 = .ok (.getfield 16, 3) := by decide +kernel
theorem d91_43 : decode (pg_code 91) 43 = .ok (.bipush 12, 2) := by decide +kernel
theorem d91_45 : decode (pg_code 91) 45 = .ok (.iload_n 2, 1) := by decide +kernel
theorem d91_46 : decode (pg_code 91) 46 = .ok (.imul, 1) := by decide +kernel
theorem d91_47 : decode (pg_code 91) 47 = .ok (.iload 4, 2) := by decide +kernel
theorem d91_49 : decode (pg_code 91) 49 = .ok (.iadd, 1) := by decide +kernel
theorem d91_50 : decode (pg_code 91) 50 = .ok (.iaload, 1) := by decide +kernel
theorem d91_51 : decode (pg_code 91) 51 = .ok (.if_icmp .ne 33, 3) := by decide +kernel
theorem d91_54 : decode (pg_code 91) 54 = .ok (.aload_n 0, 1) := by decide +kernel
theorem d91_55 : decode (pg_code 91) 55 = .ok (.getfield 19, 3) := by decide +kernel
theorem d91_58 : decode (pg_code 91) 58 = .ok (.bipush 12, 2) := by decide +kernel
theorem d91_60 : decode (pg_code 91) 60 = .ok (.iload_n 1, 1) := by decide +kernel
theorem d91_61 : decode (pg_code 91) 61 = .ok (.imul, 1) := by decide +kernel
theorem d91_62 : decode (pg_code 91) 62 = .ok (.iload_n 3, 1) := by decide +kernel
theorem d91_63 : decode (pg_code 91) 63 = .ok (.iadd, 1) := by decide +kernel
theorem d91_64 : decode (pg_code 91) 64 = .ok (.iaload, 1) := by decide +kernel
theorem d91_65 : decode (pg_code 91) 65 = .ok (.aload_n 0, 1) := by decide +kernel
theorem d91_66 : decode (pg_code 91) 66 = .ok (.getfield 19, 3) := by decide +kernel
theorem d91_69 : decode (pg_code 91) 69 = .ok (.bipush 12, 2) := by decide +kernel
theorem d91_71 : decode (pg_code 91) 71 = .ok (.iload_n 2, 1) := by decide +kernel
theorem d91_72 : decode (pg_code 91) 72 = .ok (.imul, 1) := by decide +kernel
theorem d91_73 : decode (pg_code 91) 73 = .ok (.iload 4, 2) := by decide +kernel
theorem d91_75 : decode (pg_code 91) 75 = .ok (.iadd, 1) := by decide +kernel
theorem d91_76 : decode (pg_code 91) 76 = .ok (.iaload, 1) := by decide +kernel
theorem d91_77 : decode (pg_code 91) 77 = .ok (.if_icmp .ne 7, 3) := by decide +kernel
theorem d91_80 : decode (pg_code 91) 80 = .ok (.iconst 1, 1) := by decide +kernel
theorem d91_81 : decode (pg_code 91) 81 = .ok (.goto 4, 3) := by decide +kernel
theorem d91_84 : decode (pg_code 91) 84 = .ok (.iconst 0, 1) := by decide +kernel
theorem d91_85 : decode (pg_code 91) 85 = .ok (.istore 5, 2) := by decide +kernel
theorem d91_87 : decode (pg_code 91) 87 = .ok (.aload_n 0, 1) := by decide +kernel
theorem d91_88 : decode (pg_code 91) 88 = .ok (.iload_n 1, 1) := by decide +kernel
theorem d91_89 : decode (pg_code 91) 89 = .ok (.iload_n 3, 1) := by decide +kernel
theorem d91_90 : decode (pg_code 91) 90 = .ok (.iconst 0, 1) := by decide +kernel
theorem d91_91 : decode (pg_code 91) 91 = .ok (.invokevirtual 121, 3) := by decide +kernel
theorem d91_94 : decode (pg_code 91) 94 = .ok (.istore 6, 2) := by decide +kernel
theorem d91_96 : decode (pg_code 91) 96 = .ok (.aload_n 0, 1) := by decide +kernel
theorem d91_97 : decode (pg_code 91) 97 = .ok (.iload_n 2, 1) := by decide +kernel
theorem d91_98 : decode (pg_code 91) 98 = .ok (.iload 4, 2) := by decide +kernel
theorem d91_100 : decode (pg_code 91) 100 = .ok (.iconst 0, 1) := by decide +kernel
theorem d91_101 : decode (pg_code 91) 101 = .ok (.invokevirtual 121, 3) := by decide +kernel
theorem d91_104 : decode (pg_code 91) 104 = .ok (.istore 7, 2) := by decide +kernel
theorem d91_106 : decode (pg_code 91) 106 = .ok (.iconst 1, 1) := by decide +kernel
theorem d91_107 : decode (pg_code 91) 107 = .ok (.istore 8, 2) := by decide +kernel
theorem d91_109 : decode (pg_code 91) 109 = .ok (.iload 8, 2) := by decide +kernel
theorem d91_111 : decode (pg_code 91) 111 = .ok (.bipush 13, 2) := by decide +kernel
theorem d91_113 : decode (pg_code 91) 113 = .ok (.if_icmp .ge 78, 3) := by decide +kernel
theorem d91_116 : decode (pg_code 91) 116 = .ok (.iload 5, 2) := by decide +kernel
theorem d91_118 : decode (pg_code 91) 118 = .ok (.ifCond .eq 73, 3) := by decide +kernel
theorem d91_121 : decode (pg_code 91) 121 = .ok (.iload 6, 2) := by decide +kernel
theorem d91_123 : decode (pg_code 91) 123 = .ok (.ifCond .ge 8, 3) := by decide +kernel
theorem d91_126 : decode (pg_code 91) 126 = .ok (.iload 7, 2) := by decide +kernel
theorem d91_128 : decode (pg_code 91) 128 = .ok (.ifCond .lt 63, 3) := by decide +kernel
theorem d91_131 : decode (pg_code 91) 131 = .ok (.iload 6, 2) := by decide +kernel
theorem d91_133 : decode (pg_code 91) 133 = .ok (.ifCond .lt 28, 3) := by decide +kernel
theorem d91_136 : decode (pg_code 91) 136 = .ok (.iload 7, 2) := by decide +kernel
theorem d91_138 : decode (pg_code 91) 138 = .ok (.ifCond .lt 23, 3) := by decide +kernel
theorem d91_141 : decode (pg_code 91) 141 = .ok (.aload_n 0, 1) := by decide +kernel
theorem d91_142 : decode (pg_code 91) 142 = .ok (.getfield 28, 3) := by decide +kernel
theorem d91_145 : decode (pg_code 91) 145 = .ok (.bipush 12, 2) := by decide +kernel
theorem d91_147 : decode (pg_code 91) 147 = .ok (.iload 6, 2) := by decide +kernel
theorem d91_149 : decode (pg_code 91) 149 = .ok (.imul, 1) := by decide +kernel
theorem d91_150 : decode (pg_code 91) 150 = .ok (.iload 7, 2) := by decide +kernel
theorem d91_152 : decode (pg_code 91) 152 = .ok (.iadd, 1) := by decide +kernel
theorem d91_153 : decode (pg_code 91) 153 = .ok (.baload, 1) := by decide +kernel
theorem d91_154 : decode (pg_code 91) 154 = .ok (.ifCond .eq 7, 3) := by decide +kernel
theorem d91_157 : decode (pg_code 91) 157 = .ok (.iconst 1, 1) := by decide +kernel
theorem d91_158 : decode (pg_code 91) 158 = .ok (.goto 4, 3) := by decide +kernel
theorem d91_161 : decode (pg_code 91) 161 = .ok (.iconst 0, 1) := by decide +kernel
theorem d91_162 : decode (pg_code 91) 162 = .ok (.istore 5, 2) := by decide +kernel
theorem d91_164 : decode (pg_code 91) 164 = .ok (.aload_n 0, 1) := by decide +kernel
theorem d91_165 : decode (pg_code 91) 165 = .ok (.iload_n 1, 1) := by decide +kernel
theorem d91_166 : decode (pg_code 91) 166 = .ok (.iload_n 3, 1) := by decide +kernel
theorem d91_167 : decode (pg_code 91) 167 = .ok (.iload 8, 2) := by decide +kernel
theorem d91_169 : decode (pg_code 91) 169 = .ok (.invokevirtual 121, 3) := by decide +kernel
theorem d91_172 : decode (pg_code 91) 172 = .ok (.istore 6, 2) := by decide +kernel
theorem d91_174 : decode (pg_code 91) 174 = .ok (.aload_n 0, 1) := by decide +kernel
theorem d91_175 : decode (pg_code 91) 175 = .ok (.iload_n 2, 1) := by decide +kernel
theorem d91_176 : decode (pg_code 91) 176 = .ok (.iload 4, 2) := by decide +kernel
theorem d91_178 : decode (pg_code 91) 178 = .ok (.iload 8, 2) := by decide +kernel
theorem d91_180 : decode (pg_code 91) 180 = .ok (.invokevirtual 121, 3) := by decide +kernel
theorem d91_183 : decode (pg_code 91) 183 = .ok (.istore 7, 2) := by decide +kernel
theorem d91_185 : decode (pg_code 91) 185 = .ok (.iinc 8 1, 3) := by decide +kernel
theorem d91_188 : decode (pg_code 91) 188 = .ok (.goto (-79), 3) := by decide +kernel
theorem d91_191 : decode (pg_code 91) 191 = .ok (.aload_n 0, 1) := by decide +kernel
theorem d91_192 : decode (pg_code 91) 192 = .ok (.getfield 28, 3) := by decide +kernel
theorem d91_195 : decode (pg_code 91) 195 = .ok (.bipush 12, 2) := by decide +kernel
theorem d91_197 : decode (pg_code 91) 197 = .ok (.iload_n 3, 1) := by decide +kernel
theorem d91_198 : decode (pg_code 91) 198 = .ok (.imul, 1) := by decide +kernel
theorem d91_199 : decode (pg_code 91) 199 = .ok (.iload 4, 2) := by decide +kernel
theorem d91_201 : decode (pg_code 91) 201 = .ok (.iadd, 1) := by decide +kernel
theorem d91_202 : decode (pg_code 91) 202 = .ok (.iload 5, 2) := by decide +kernel
theorem d91_204 : decode (pg_code 91) 204 = .ok (.bastore, 1) := by decide +kernel
theorem d91_205 : decode (pg_code 91) 205 = .ok (.iinc 4 (-1), 3) := by decide +kernel
theorem d91_208 : decode (pg_code 91) 208 = .ok (.goto (-185), 3) := by decide +kernel
theorem d91_211 : decode (pg_code 91) 211 = .ok (.iinc 3 (-1), 3) := by decide +kernel
theorem d91_214 : decode (pg_code 91) 214 = .ok (.goto (-205), 3) := by decide +kernel
theorem d91_217 : decode (pg_code 91) 217 = .ok (.return_, 1) := by decide +kernel
theorem e91 {b1 b2 b3 : Value} : am_Call L xs d 91 [b1, b2, b3] σ Q = am_Rn L xs d 91 0 [b1, b2, b3, .retAddr 0, .retAddr 0, .retAddr 0, .retAddr 0, .retAddr 0, .retAddr 0] [] σ Q := rfl
theorem r91_0  : am_Rn L xs d 91 0 ls st σ Q = am_la ls 0 (fun x => am_Rn L xs d 91 1 ls (x :: st) σ Q) := am_r_aload_n d91_0
theorem r91_1 {p : Nat} : am_Rn L xs d 91 1 ls (.ref p :: st) σ Q = am_fd σ p 6 0 (fun v => am_Rn L xs d 91 4 ls (v :: st) σ Q) := am_r_getfield d91_1 rfl
theorem r91_4  : am_Rn L xs d 91 4 ls st σ Q = am_li ls 1 (fun x => am_Rn L xs d 91 5 ls (.int x :: st) σ Q) := am_r_iload_n d91_4
theorem r91_5 {p : Nat} {i : Int32} : am_Rn L xs d 91 5 ls (.int i :: .ref p :: st) σ Q = am_ai 0 σ p i (fun x => am_Rn L xs d 91 6 ls (.int x :: st) σ Q) := am_r_iaload d91_5
theorem r91_6  : am_Rn L xs d 91 6 ls st σ Q = am_Rn L xs d 91 7 ls (.int 1 :: st) σ Q := am_r_iconst d91_6 (by decide)
theorem r91_7 {a b : Int32} : am_Rn L xs d 91 7 ls (.int b :: .int a :: st) σ Q = am_Rn L xs d 91 8 ls (.int (a - b) :: st) σ Q := am_r_isub d91_7
theorem r91_8 {x : Int32} : am_Rn L xs d 91 8 ls (.int x :: st) σ Q = (3 < ls.length ∧ am_Rn L xs d 91 9 (ls.set 3 (.int x)) st σ Q) := am_r_istore_n d91_8
theorem r91_9  : am_Rn L xs d 91 9 ls st σ Q = am_li ls 3 (fun x => am_Rn L xs d 91 10 ls (.int x :: st) σ Q) := am_r_iload_n d91_9
theorem r91_10 {a : Int32} : am_Rn L xs d 91 10 ls (.int a :: st) σ Q = if a < 0 then am_Rn L xs d 91 217 ls st σ Q else am_Rn L xs d 91 13 ls st σ Q := (am_r_if (t := 217) d91_10 (by decide)).trans (am_ite _ _ trivial (by simp only [am_cond, decide_eq_true_eq]))
theorem r91_13  : am_Rn L xs d 91 13 ls st σ Q = am_la ls 0 (fun x => am_Rn L xs d 91 14 ls (x :: st) σ Q) := am_r_aload_n d91_13
theorem r91_14 {p : Nat} : am_Rn L xs d 91 14 ls (.ref p :: st) σ Q = am_fd σ p 6 0 (fun v => am_Rn L xs d 91 17 ls (v :: st) σ Q) := am_r_getfield d91_14 rfl
theorem r91_17  : am_Rn L xs d 91 17 ls st σ Q = am_li ls 2 (fun x => am_Rn L xs d 91 18 ls (.int x :: st) σ Q) := am_r_iload_n d91_17
theorem r91_18 {p : Nat} {i : Int32} : am_Rn L xs d 91 18 ls (.int i :: .ref p :: st) σ Q = am_ai 0 σ p i (fun x => am_Rn L xs d 91 19 ls (.int x :: st) σ Q) := am_r_iaload d91_18
theorem r91_19  : am_Rn L xs d 91 19 ls st σ Q = am_Rn L xs d 91 20 ls (.int 1 :: st) σ Q := am_r_iconst d91_19 (by decide)
theorem r91_20 {a b : Int32} : am_Rn L xs d 91 20 ls (.int b :: .int a :: st) σ Q = am_Rn L xs d 91 21 ls (.int (a - b) :: st) σ Q := am_r_isub d91_20
theorem r91_21 {x : Int32} : am_Rn L xs d 91 21 ls (.int x :: st) σ Q = (4 < ls.length ∧ am_Rn L xs d 91 23 (ls.set 4 (.int x)) st σ Q) := am_r_istore d91_21
theorem r91_23  : am_Rn L xs d 91 23 ls st σ Q = am_li ls 4 (fun x => am_Rn L xs d 91 25 ls (.int x :: st) σ Q) := am_r_iload d91_23
theorem r91_25 {a : Int32} : am_Rn L xs d 91 25 ls (.int a :: st) σ Q = if a < 0 then am_Rn L xs d 91 211 ls st σ Q else am_Rn L xs d 91 28 ls st σ Q := (am_r_if (t := 211) d91_25 (by decide)).trans (am_ite _ _ trivial (by simp only [am_cond, decide_eq_true_eq]))
theorem r91_28  : am_Rn L xs d 91 28 ls st σ Q = am_la ls 0 (fun x => am_Rn L xs d 91 29 ls (x :: st) σ Q) := am_r_aload_n d91_28
theorem r91_29 {p : Nat} : am_Rn L xs d 91 29 ls (.ref p :: st) σ Q = am_fd σ p 6 2 (fun v => am_Rn L xs d 91 32 ls (v :: st) σ Q) := am_r_getfield d91_29 rfl
theorem r91_32  : am_Rn L xs d 91 32 ls st σ Q = am_Rn L xs d 91 34 ls (.int 12 :: st) σ Q := am_r_bipush d91_32 (by decide)
theorem r91_34  : am_Rn L xs d 91 34 ls st σ Q = am_li ls 1 (fun x => am_Rn L xs d 91 35 ls (.int x :: st) σ Q) := am_r_iload_n d91_34
theorem r91_35 {a b : Int32} : am_Rn L xs d 91 35 ls (.int b :: .int a :: st) σ Q = am_Rn L xs d 91 36 ls (.int (a * b) :: st) σ Q := am_r_imul d91_35
theorem r91_36  : am_Rn L xs d 91 36 ls st σ Q = am_li ls 3 (fun x => am_Rn L xs d 91 37 ls (.int x :: st) σ Q) := am_r_iload_n d91_36
theorem r91_37 {a b : Int32} : am_Rn L xs d 91 37 ls (.int b :: .int a :: st) σ Q = am_Rn L xs d 91 38 ls (.int (a + b) :: st) σ Q := am_r_iadd d91_37
theorem r91_38 {p : Nat} {i : Int32} : am_Rn L xs d 91 38 ls (.int i :: .ref p :: st) σ Q = am_ai 0 σ p i (fun x => am_Rn L xs d 91 39 ls (.int x :: st) σ Q) := am_r_iaload d91_38
theorem r91_39  : am_Rn L xs d 91 39 ls st σ Q = am_la ls 0 (fun x => am_Rn L xs d 91 40 ls (x :: st) σ Q) := am_r_aload_n d91_39
theorem r91_40 {p : Nat} : am_Rn L xs d 91 40 ls (.ref p :: st) σ Q = am_fd σ p 6 2 (fun v => am_Rn L xs d 91 43 ls (v :: st) σ Q) := am_r_getfield d91_40 rfl
theorem r91_43  : am_Rn L xs d 91 43 ls st σ Q = am_Rn L xs d 91 45 ls (.int 12 :: st) σ Q := am_r_bipush d91_43 (by decide)
theorem r91_45  : am_Rn L xs d 91 45 ls st σ Q = am_li ls 2 (fun x => am_Rn L xs d 91 46 ls (.int x :: st) σ Q) := am_r_iload_n d91_45
theorem r91_46 {a b : Int32} : am_Rn L xs d 91 46 ls (.int b :: .int a :: st) σ Q = am_Rn L xs d 91 47 ls (.int (a * b) :: st) σ Q := am_r_imul d91_46
theorem r91_47  : am_Rn L xs d 91 47 ls st σ Q = am_li ls 4 (fun x => am_Rn L xs d 91 49 ls (.int x :: st) σ Q) := am_r_iload d91_47
theorem r91_49 {a b : Int32} : am_Rn L xs d 91 49 ls (.int b :: .int a :: st) σ Q = am_Rn L xs d 91 50 ls (.int (a + b) :: st) σ Q := am_r_iadd d91_49
theorem r91_50 {p : Nat} {i : Int32} : am_Rn L xs d 91 50 ls (.int i :: .ref p :: st) σ Q = am_ai 0 σ p i (fun x => am_Rn L xs d 91 51 ls (.int x :: st) σ Q) := am_r_iaload d91_50
theorem r91_51 {a b : Int32} : am_Rn L xs d 91 51 ls (.int b :: .int a :: st) σ Q = if ¬ a = b then am_Rn L xs d 91 84 ls st σ Q else am_Rn L xs d 91 54 ls st σ Q := (am_r_icmp (t := 84) d91_51 (by decide)).trans (am_ite _ _ trivial (by simp only [am_cond, decide_eq_true_eq]))
theorem r91_54  : am_Rn L xs d 91 54 ls st σ Q = am_la ls 0 (fun x => am_Rn L xs d 91 55 ls (x :: st) σ Q) := am_r_aload_n d91_54
theorem r91_55 {p : Nat} : am_Rn L xs d 91 55 ls (.ref p :: st) σ Q = am_fd σ p 6 3 (fun v => am_Rn L xs d 91 58 ls (v :: st) σ Q) := am_r_getfield d91_55 rfl
theorem r91_58  : am_Rn L xs d 91 58 ls st σ Q = am_Rn L xs d 91 60 ls (.int 12 :: st) σ Q := am_r_bipush d91_58 (by decide)
theorem r91_60  : am_Rn L xs d 91 60 ls st σ Q = am_li ls 1 (fun x => am_Rn L xs d 91 61 ls (.int x :: st) σ Q) := am_r_iload_n d91_60
theorem r91_61 {a b : Int32} : am_Rn L xs d 91 61 ls (.int b :: .int a :: st) σ Q = am_Rn L xs d 91 62 ls (.int (a * b) :: st) σ Q := am_r_imul d91_61
theorem r91_62  : am_Rn L xs d 91 62 ls st σ Q = am_li ls 3 (fun x => am_Rn L xs d 91 63 ls (.int x :: st) σ Q) := am_r_iload_n d91_62
theorem r91_63 {a b : Int32} : am_Rn L xs d 91 63 ls (.int b :: .int a :: st) σ Q = am_Rn L xs d 91 64 ls (.int (a + b) :: st) σ Q := am_r_iadd d91_63
theorem r91_64 {p : Nat} {i : Int32} : am_Rn L xs d 91 64 ls (.int i :: .ref p :: st) σ Q = am_ai 0 σ p i (fun x => am_Rn L xs d 91 65 ls (.int x :: st) σ Q) := am_r_iaload d91_64
theorem r91_65  : am_Rn L xs d 91 65 ls st σ Q = am_la ls 0 (fun x => am_Rn L xs d 91 66 ls (x :: st) σ Q) := am_r_aload_n d91_65
theorem r91_66 {p : Nat} : am_Rn L xs d 91 66 ls (.ref p :: st) σ Q = am_fd σ p 6 3 (fun v => am_Rn L xs d 91 69 ls (v :: st) σ Q) := am_r_getfield d91_66 rfl
theorem r91_69  : am_Rn L xs d 91 69 ls st σ Q = am_Rn L xs d 91 71 ls (.int 12 :: st) σ Q := am_r_bipush d91_69 (by decide)
theorem r91_71  : am_Rn L xs d 91 71 ls st σ Q = am_li ls 2 (fun x => am_Rn L xs d 91 72 ls (.int x :: st) σ Q) := am_r_iload_n d91_71
theorem r91_72 {a b : Int32} : am_Rn L xs d 91 72 ls (.int b :: .int a :: st) σ Q = am_Rn L xs d 91 73 ls (.int (a * b) :: st) σ Q := am_r_imul d91_72
theorem r91_73  : am_Rn L xs d 91 73 ls st σ Q = am_li ls 4 (fun x => am_Rn L xs d 91 75 ls (.int x :: st) σ Q) := am_r_iload d91_73
theorem r91_75 {a b : Int32} : am_Rn L xs d 91 75 ls (.int b :: .int a :: st) σ Q = am_Rn L xs d 91 76 ls (.int (a + b) :: st) σ Q := am_r_iadd d91_75
theorem r91_76 {p : Nat} {i : Int32} : am_Rn L xs d 91 76 ls (.int i :: .ref p :: st) σ Q = am_ai 0 σ p i (fun x => am_Rn L xs d 91 77 ls (.int x :: st) σ Q) := am_r_iaload d91_76
theorem r91_77 {a b : Int32} : am_Rn L xs d 91 77 ls (.int b :: .int a :: st) σ Q = if ¬ a = b then am_Rn L xs d 91 84 ls st σ Q else am_Rn L xs d 91 80 ls st σ Q := (am_r_icmp (t := 84) d91_77 (by decide)).trans (am_ite _ _ trivial (by simp only [am_cond, decide_eq_true_eq]))
theorem r91_80  : am_Rn L xs d 91 80 ls st σ Q = am_Rn L xs d 91 81 ls (.int 1 :: st) σ Q := am_r_iconst d91_80 (by decide)
theorem r91_81  : am_Rn L xs d 91 81 ls st σ Q = am_Rn L xs d 91 85 ls st σ Q := am_r_goto d91_81 (by decide)
theorem r91_84  : am_Rn L xs d 91 84 ls st σ Q = am_Rn L xs d 91 85 ls (.int 0 :: st) σ Q := am_r_iconst d91_84 (by decide)
theorem r91_85 {x : Int32} : am_Rn L xs d 91 85 ls (.int x :: st) σ Q = (5 < ls.length ∧ am_Rn L xs d 91 87 (ls.set 5 (.int x)) st σ Q) := am_r_istore d91_85
theorem r91_87  : am_Rn L xs d 91 87 ls st σ Q = am_la ls 0 (fun x => am_Rn L xs d 91 88 ls (x :: st) σ Q) := am_r_aload_n d91_87
theorem r91_88  : am_Rn L xs d 91 88 ls st σ Q = am_li ls 1 (fun x => am_Rn L xs d 91 89 ls (.int x :: st) σ Q) := am_r_iload_n d91_88
theorem r91_89  : am_Rn L xs d 91 89 ls st σ Q = am_li ls 3 (fun x => am_Rn L xs d 91 90 ls (.int x :: st) σ Q) := am_r_iload_n d91_89
theorem r91_90  : am_Rn L xs d 91 90 ls st σ Q = am_Rn L xs d 91 91 ls (.int 0 :: st) σ Q := am_r_iconst d91_90 (by decide)
theorem r91_91 {a1 a2 a3 : Value} {p : Nat} : am_Rn L xs (d + 1) 91 91 ls (a3 :: a2 :: a1 :: .ref p :: st) σ Q = ((am_oc σ p = 6 ∧ st.length ≤ 4 ∧ am_ok a1 = true ∧ am_ok a2 = true ∧ am_ok a3 = true) ∧ am_Call L xs d 92 [.ref p, a1, a2, a3] σ (fun r σ1 => am_Rn L xs (d + 1) 91 94 ls (r.toList ++ st) σ1 Q)) := am_R_virtual3 d91_91 rfl ⟨by decide, rfl⟩ rfl rfl (by decide)
theorem r91_94 {x : Int32} : am_Rn L xs d 91 94 ls (.int x :: st) σ Q = (6 < ls.length ∧ am_Rn L xs d 91 96 (ls.set 6 (.int x)) st σ Q) := am_r_istore d91_94
theorem r91_96  : am_Rn L xs d 91 96 ls st σ Q = am_la ls 0 (fun x => am_Rn L xs d 91 97 ls (x :: st) σ Q) := am_r_aload_n d91_96
theorem r91_97  : am_Rn L xs d 91 97 ls st σ Q = am_li ls 2 (fun x => am_Rn L xs d 91 98 ls (.int x :: st) σ Q) := am_r_iload_n d91_97
theorem r91_98  : am_Rn L xs d 91 98 ls st σ Q = am_li ls 4 (fun x => am_Rn L xs d 91 100 ls (.int x :: st) σ Q) := am_r_iload d91_98
theorem r91_100  : am_Rn L xs d 91 100 ls st σ Q = am_Rn L xs d 91 101 ls (.int 0 :: st) σ Q := am_r_iconst d91_100 (by decide)
theorem r91_101 {a1 a2 a3 : Value} {p : Nat} : am_Rn L xs (d + 1) 91 101 ls (a3 :: a2 :: a1 :: .ref p :: st) σ Q = ((am_oc σ p = 6 ∧ st.length ≤ 4 ∧ am_ok a1 = true ∧ am_ok a2 = true ∧ am_ok a3 = true) ∧ am_Call L xs d 92 [.ref p, a1, a2, a3] σ (fun r σ1 => am_Rn L xs (d + 1) 91 104 ls (r.toList ++ st) σ1 Q)) := am_R_virtual3 d91_101 rfl ⟨by decide, rfl⟩ rfl rfl (by decide)
theorem r91_104 {x : Int32} : am_Rn L xs d 91 104 ls (.int x :: st) σ Q = (7 < ls.length ∧ am_Rn L xs d 91 106 (ls.set 7 (.int x)) st σ Q) := am_r_istore d91_104
theorem r91_106  : am_Rn L xs d 91 106 ls st σ Q = am_Rn L xs d 91 107 ls (.int 1 :: st) σ Q := am_r_iconst d91_106 (by decide)
theorem r91_107 {x : Int32} : am_Rn L xs d 91 107 ls (.int x :: st) σ Q = (8 < ls.length ∧ am_Rn L xs d 91 109 (ls.set 8 (.int x)) st σ Q) := am_r_istore d91_107
theorem r91_109  : am_Rn L xs d 91 109 ls st σ Q = am_li ls 8 (fun x => am_Rn L xs d 91 111 ls (.int x :: st) σ Q) := am_r_iload d91_109
theorem r91_111  : am_Rn L xs d 91 111 ls st σ Q = am_Rn L xs d 91 113 ls (.int 13 :: st) σ Q := am_r_bipush d91_111 (by decide)
theorem r91_113 {a b : Int32} : am_Rn L xs d 91 113 ls (.int b :: .int a :: st) σ Q = if b ≤ a then am_Rn L xs d 91 191 ls st σ Q else am_Rn L xs d 91 116 ls st σ Q := (am_r_icmp (t := 191) d91_113 (by decide)).trans (am_ite _ _ trivial (by simp only [am_cond, decide_eq_true_eq]))
theorem r91_116  : am_Rn L xs d 91 116 ls st σ Q = am_li ls 5 (fun x => am_Rn L xs d 91 118 ls (.int x :: st) σ Q) := am_r_iload d91_116
theorem r91_118 {a : Int32} : am_Rn L xs d 91 118 ls (.int a :: st) σ Q = if a = 0 then am_Rn L xs d 91 191 ls st σ Q else am_Rn L xs d 91 121 ls st σ Q := (am_r_if (t := 191) d91_118 (by decide)).trans (am_ite _ _ trivial (by simp only [am_cond, decide_eq_true_eq]))
theorem r91_121  : am_Rn L xs d 91 121 ls st σ Q = am_li ls 6 (fun x => am_Rn L xs d 91 123 ls (.int x :: st) σ Q) := am_r_iload d91_121
theorem r91_123 {a : Int32} : am_Rn L xs d 91 123 ls (.int a :: st) σ Q = if 0 ≤ a then am_Rn L xs d 91 131 ls st σ Q else am_Rn L xs d 91 126 ls st σ Q := (am_r_if (t := 131) d91_123 (by decide)).trans (am_ite _ _ trivial (by simp only [am_cond, decide_eq_true_eq]))
theorem r91_126  : am_Rn L xs d 91 126 ls st σ Q = am_li ls 7 (fun x => am_Rn L xs d 91 128 ls (.int x :: st) σ Q) := am_r_iload d91_126
theorem r91_128 {a : Int32} : am_Rn L xs d 91 128 ls (.int a :: st) σ Q = if a < 0 then am_Rn L xs d 91 191 ls st σ Q else am_Rn L xs d 91 131 ls st σ Q := (am_r_if (t := 191) d91_128 (by decide)).trans (am_ite _ _ trivial (by simp only [am_cond, decide_eq_true_eq]))
theorem r91_131  : am_Rn L xs d 91 131 ls st σ Q = am_li ls 6 (fun x => am_Rn L xs d 91 133 ls (.int x :: st) σ Q) := am_r_iload d91_131
theorem r91_133 {a : Int32} : am_Rn L xs d 91 133 ls (.int a :: st) σ Q = if a < 0 then am_Rn L xs d 91 161 ls st σ Q else am_Rn L xs d 91 136 ls st σ Q := (am_r_if (t := 161) d91_133 (by decide)).trans (am_ite _ _ trivial (by simp only [am_cond, decide_eq_true_eq]))
theorem r91_136  : am_Rn L xs d 91 136 ls st σ Q = am_li ls 7 (fun x => am_Rn L xs d 91 138 ls (.int x :: st) σ Q) := am_r_iload d91_136
theorem r91_138 {a : Int32} : am_Rn L xs d 91 138 ls (.int a :: st) σ Q = if a < 0 then am_Rn L xs d 91 161 ls st σ Q else am_Rn L xs d 91 141 ls st σ Q := (am_r_if (t := 161) d91_138 (by decide)).trans (am_ite _ _ trivial (by simp only [am_cond, decide_eq_true_eq]))
theorem r91_141  : am_Rn L xs d 91 141 ls st σ Q = am_la ls 0 (fun x => am_Rn L xs d 91 142 ls (x :: st) σ Q) := am_r_aload_n d91_141
theorem r91_142 {p : Nat} : am_Rn L xs d 91 142 ls (.ref p :: st) σ Q = am_fd σ p 6 6 (fun v => am_Rn L xs d 91 145 ls (v :: st) σ Q) := am_r_getfield d91_142 rfl
theorem r91_145  : am_Rn L xs d 91 145 ls st σ Q = am_Rn L xs d 91 147 ls (.int 12 :: st) σ Q := am_r_bipush d91_145 (by decide)
theorem r91_147  : am_Rn L xs d 91 147 ls st σ Q = am_li ls 6 (fun x => am_Rn L xs d 91 149 ls (.int x :: st) σ Q) := am_r_iload d91_147
theorem r91_149 {a b : Int32} : am_Rn L xs d 91 149 ls (.int b :: .int a :: st) σ Q = am_Rn L xs d 91 150 ls (.int (a * b) :: st) σ Q := am_r_imul d91_149
theorem r91_150  : am_Rn L xs d 91 150 ls st σ Q = am_li ls 7 (fun x => am_Rn L xs d 91 152 ls (.int x :: st) σ Q) := am_r_iload d91_150
theorem r91_152 {a b : Int32} : am_Rn L xs d 91 152 ls (.int b :: .int a :: st) σ Q = am_Rn L xs d 91 153 ls (.int (a + b) :: st) σ Q := am_r_iadd d91_152
theorem r91_153 {p : Nat} {i : Int32} : am_Rn L xs d 91 153 ls (.int i :: .ref p :: st) σ Q = am_ai 1 σ p i (fun x => am_Rn L xs d 91 154 ls (.int x :: st) σ Q) := am_r_baload d91_153
theorem r91_154 {a : Int32} : am_Rn L xs d 91 154 ls (.int a :: st) σ Q = if a = 0 then am_Rn L xs d 91 161 ls st σ Q else am_Rn L xs d 91 157 ls st σ Q := (am_r_if (t := 161) d91_154 (by decide)).trans (am_ite _ _ trivial (by simp only [am_cond, decide_eq_true_eq]))
theorem r91_157  : am_Rn L xs d 91 157 ls st σ Q = am_Rn L xs d 91 158 ls (.int 1 :: st) σ Q := am_r_iconst d91_157 (by decide)
theorem r91_158  : am_Rn L xs d 91 158 ls st σ Q = am_Rn L xs d 91 162 ls st σ Q := am_r_goto d91_158 (by decide)
theorem r91_161  : am_Rn L xs d 91 161 ls st σ Q = am_Rn L xs d 91 162 ls (.int 0 :: st) σ Q := am_r_iconst d91_161 (by decide)
theorem r91_162 {x : Int32} : am_Rn L xs d 91 162 ls (.int x :: st) σ Q = (5 < ls.length ∧ am_Rn L xs d 91 164 (ls.set 5 (.int x)) st σ Q) := am_r_istore d91_162
theorem r91_164  : am_Rn L xs d 91 164 ls st σ Q = am_la ls 0 (fun x => am_Rn L xs d 91 165 ls (x :: st) σ Q) := am_r_aload_n d91_164
theorem r91_165  : am_Rn L xs d 91 165 ls st σ Q = am_li ls 1 (fun x => am_Rn L xs d 91 166 ls (.int x :: st) σ Q) := am_r_iload_n d91_165
theorem r91_166  : am_Rn L xs d 91 166 ls st σ Q = am_li ls 3 (fun x => am_Rn L xs d 91 167 ls (.int x :: st) σ Q) := am_r_iload_n d91_166
theorem r91_167  : am_Rn L xs d 91 167 ls st σ Q = am_li ls 8 (fun x => am_Rn L xs d 91 169 ls (.int x :: st) σ Q) := am_r_iload d91_167
theorem r91_169 {a1 a2 a3 : Value} {p : Nat} : am_Rn L xs (d + 1) 91 169 ls (a3 :: a2 :: a1 :: .ref p :: st) σ Q = ((am_oc σ p = 6 ∧ st.length ≤ 4 ∧ am_ok a1 = true ∧ am_ok a2 = true ∧ am_ok a3 = true) ∧ am_Call L xs d 92 [.ref p, a1, a2, a3] σ (fun r σ1 => am_Rn L xs (d + 1) 91 172 ls (r.toList ++ st) σ1 Q)) := am_R_virtual3 d91_169 rfl ⟨by decide, rfl⟩ rfl rfl (by decide)
theorem r91_172 {x : Int32} : am_Rn L xs d 91 172 ls (.int x :: st) σ Q = (6 < ls.length ∧ am_Rn L xs d 91 174 (ls.set 6 (.int x)) st σ Q) := am_r_istore d91_172
theorem r91_174  : am_Rn L xs d 91 174 ls st σ Q = am_la ls 0 (fun x => am_Rn L xs d 91 175 ls (x :: st) σ Q) := am_r_aload_n d91_174
theorem r91_175  : am_Rn L xs d 91 175 ls st σ Q = am_li ls 2 (fun x => am_Rn L xs d 91 176 ls (.int x :: st) σ Q) := am_r_iload_n d91_175
theorem r91_176  : am_Rn L xs d 91 176 ls st σ Q = am_li ls 4 (fun x => am_Rn L xs d 91 178 ls (.int x :: st) σ Q) := am_r_iload d91_176
theorem r91_178  : am_Rn L xs d 91 178 ls st σ Q = am_li ls 8 (fun x => am_Rn L xs d 91 180 ls (.int x :: st) σ Q) := am_r_iload d91_178
theorem r91_180 {a1 a2 a3 : Value} {p : Nat} : am_Rn L xs (d + 1) 91 180 ls (a3 :: a2 :: a1 :: .ref p :: st) σ Q = ((am_oc σ p = 6 ∧ st.length ≤ 4 ∧ am_ok a1 = true ∧ am_ok a2 = true ∧ am_ok a3 = true) ∧ am_Call L xs d 92 [.ref p, a1, a2, a3] σ (fun r σ1 => am_Rn L xs (d + 1) 91 183 ls (r.toList ++ st) σ1 Q)) := am_R_virtual3 d91_180 rfl ⟨by decide, rfl⟩ rfl rfl (by decide)
theorem r91_183 {x : Int32} : am_Rn L xs d 91 183 ls (.int x :: st) σ Q = (7 < ls.length ∧ am_Rn L xs d 91 185 (ls.set 7 (.int x)) st σ Q) := am_r_istore d91_183
theorem r91_185  : am_Rn L xs d 91 185 ls st σ Q = am_li ls 8 (fun x => am_Rn L xs d 91 188 (ls.set 8 (.int (x + 1))) st σ Q) := am_r_iinc d91_185 (by decide)
theorem r91_188  : am_Rn L xs d 91 188 ls st σ Q = am_Rn L xs d 91 109 ls st σ Q := am_r_goto d91_188 (by decide)
theorem r91_191  : am_Rn L xs d 91 191 ls st σ Q = am_la ls 0 (fun x => am_Rn L xs d 91 192 ls (x :: st) σ Q) := am_r_aload_n d91_191
theorem r91_192 {p : Nat} : am_Rn L xs d 91 192 ls (.ref p :: st) σ Q = am_fd σ p 6 6 (fun v => am_Rn L xs d 91 195 ls (v :: st) σ Q) := am_r_getfield d91_192 rfl
theorem r91_195  : am_Rn L xs d 91 195 ls st σ Q = am_Rn L xs d 91 197 ls (.int 12 :: st) σ Q := am_r_bipush d91_195 (by decide)
theorem r91_197  : am_Rn L xs d 91 197 ls st σ Q = am_li ls 3 (fun x => am_Rn L xs d 91 198 ls (.int x :: st) σ Q) := am_r_iload_n d91_197
theorem r91_198 {a b : Int32} : am_Rn L xs d 91 198 ls (.int b :: .int a :: st) σ Q = am_Rn L xs d 91 199 ls (.int (a * b) :: st) σ Q := am_r_imul d91_198
theorem r91_199  : am_Rn L xs d 91 199 ls st σ Q = am_li ls 4 (fun x => am_Rn L xs d 91 201 ls (.int x :: st) σ Q) := am_r_iload d91_199
theorem r91_201 {a b : Int32} : am_Rn L xs d 91 201 ls (.int b :: .int a :: st) σ Q = am_Rn L xs d 91 202 ls (.int (a + b) :: st) σ Q := am_r_iadd d91_201
theorem r91_202  : am_Rn L xs d 91 202 ls st σ Q = am_li ls 5 (fun x => am_Rn L xs d 91 204 ls (.int x :: st) σ Q) := am_r_iload d91_202
theorem r91_204 {p : Nat} {i x : Int32} : am_Rn L xs d 91 204 ls (.int x :: .int i :: .ref p :: st) σ Q = am_wi 1 σ p i (vp_nar .boolean x) (fun σ1 => am_Rn L xs d 91 205 ls st σ1 Q) := am_r_bastore d91_204
theorem r91_205  : am_Rn L xs d 91 205 ls st σ Q = am_li ls 4 (fun x => am_Rn L xs d 91 208 (ls.set 4 (.int (x + (-1)))) st σ Q) := am_r_iinc d91_205 (by decide)
theorem r91_208  : am_Rn L xs d 91 208 ls st σ Q = am_Rn L xs d 91 23 ls st σ Q := am_r_goto d91_208 (by decide)
theorem r91_211  : am_Rn L xs d 91 211 ls st σ Q = am_li ls 3 (fun x => am_Rn L xs d 91 214 (ls.set 3 (.int (x + (-1)))) st σ Q) := am_r_iinc d91_211 (by decide)
theorem r91_214  : am_Rn L xs d 91 214 ls st σ Q = am_Rn L xs d 91 9 ls st σ Q := am_r_goto d91_214 (by decide)
theorem r91_217  : am_Rn L xs d 91 217 ls [] σ Q = Q none σ := am_r_return d91_217 rfl
theorem d92_0 : decode (pg_code 92) 0 = .ok (.iload_n 3, 1) := by decide +kernel
theorem d92_1 : decode (pg_code 92) 1 = .ok (.istore 4, 2) := by decide +kernel
theorem d92_3 : decode (pg_code 92) 3 = .ok (.iload_n 2, 1) := by decide +kernel
theorem d92_4 : decode (pg_code 92) 4 = .ok (.iconst 1, 1) := by decide +kernel
theorem d92_5 : decode (pg_code 92) 5 = .ok (.iadd, 1) := by decide +kernel
theorem d92_6 : decode (pg_code 92) 6 = .ok (.istore 5, 2) := by decide +kernel
theorem d92_8 : decode (pg_code 92) 8 = .ok (.iload 5, 2) := by decide +kernel
theorem d92_10 : decode (pg_code 92) 10 = .ok (.aload_n 0, 1) := by decide +kernel
theorem d92_11 : decode (pg_code 92) 11 = .ok (.getfield 7, 3) := by decide +kernel
theorem d92_14 : decode (pg_code 92) 14 = .ok (.iload_n 1, 1) := by decide +kernel
theorem d92_15 : decode (pg_code 92) 15 = .ok (.iaload, 1) := by decide +kernel
theorem d92_16 : decode (pg_code 92) 16 = .ok (.if_icmp .ge 36, 3) := by decide +kernel
theorem d92_19 : decode (pg_code 92) 19 = .ok (.aload_n 0, 1) := by decide +kernel
theorem d92_20 : decode (pg_code 92) 20 = .ok (.getfield 13, 3) := by decide +kernel
theorem d92_23 : decode (pg_code 92) 23 = .ok (.bipush 12, 2) := by decide +kernel
theorem d92_25 : decode (pg_code 92) 25 = .ok (.iload_n 1, 1) := by decide +kernel
theorem d92_26 : decode (pg_code 92) 26 = .ok (.imul, 1) := by decide +kernel
theorem d92_27 : decode (pg_code 92) 27 = .ok (.iload 5, 2) := by decide +kernel
theorem d92_29 : decode (pg_code 92) 29 = .ok (.iadd, 1) := by decide +kernel
theorem d92_30 : decode (pg_code 92) 30 = .ok (.iaload, 1) := by decide +kernel
theorem d92_31 : decode (pg_code 92) 31 = .ok (.iload_n 2, 1) := by decide +kernel
theorem d92_32 : decode (pg_code 92) 32 = .ok (.if_icmp .ne 14, 3) := by decide +kernel
theorem d92_35 : decode (pg_code 92) 35 = .ok (.iload 4, 2) := by decide +kernel
theorem d92_37 : decode (pg_code 92) 37 = .ok (.ifCond .ne 6, 3) := by decide +kernel
theorem d92_40 : decode (pg_code 92) 40 = .ok (.iload 5, 2) := by decide +kernel
theorem d92_42 : decode (pg_code 92) 42 = .ok (.ireturn, 1) := by decide +kernel
theorem d92_43 : decode (pg_code 92) 43 = .ok (.iinc 4 (-1), 3) := by decide +kernel
theorem d92_46 : decode (pg_code 92) 46 = .ok (.iinc 5 1, 3) := by decide +kernel
theorem d92_49 : decode (pg_code 92) 49 = .ok (.goto (-41), 3) := by decide +kernel
theorem d92_52 : decode (pg_code 92) 52 = .ok (.iconst (-1), 1) := by decide +kernel
theorem d92_53 : decode (pg_code 92) 53 = .ok (.ireturn, 1) := by decide +kernel
theorem e92 {b1 b2 b3 b4 : Value} : am_Call L xs d 92 [b1, b2, b3, b4] σ Q = am_Rn L xs d 92 0 [b1, b2, b3, b4, .retAddr 0, .retAddr 0] [] σ Q := rfl
theorem r92_0  : am_Rn L xs d 92 0 ls st σ Q = am_li ls 3 (fun x => am_Rn L xs d 92 1 ls (.int x :: st) σ Q) := am_r_iload_n d92_0
theorem r92_1 {x : Int32} : am_Rn L xs d 92 1 ls (.int x :: st) σ Q = (4 < ls.length ∧ am_Rn L xs d 92 3 (ls.set 4 (.int x)) st σ Q) := am_r_istore d92_1
theorem r92_3  : am_Rn L xs d 92 3 ls st σ Q = am_li ls 2 (fun x => am_Rn L xs d 92 4 ls (.int x :: st) σ Q) := am_r_iload_n d92_3
theorem r92_4  : am_Rn L xs d 92 4 ls st σ Q = am_Rn L xs d 92 5 ls (.int 1 :: st) σ Q := am_r_iconst d92_4 (by decide)
theorem r92_5 {a b : Int32} : am_Rn L xs d 92 5 ls (.int b :: .int a :: st) σ Q = am_Rn L xs d 92 6 ls (.int (a + b) :: st) σ Q := am_r_iadd d92_5
theorem r92_6 {x : Int32} : am_Rn L xs d 92 6 ls (.int x :: st) σ Q = (5 < ls.length ∧ am_Rn L xs d 92 8 (ls.set 5 (.int x)) st σ Q) := am_r_istore d92_6
theorem r92_8  : am_Rn L xs d 92 8 ls st σ Q = am_li ls 5 (fun x => am_Rn L xs d 92 10 ls (.int x :: st) σ Q) := am_r_iload d92_8
theorem r92_10  : am_Rn L xs d 92 10 ls st σ Q = am_la ls 0 (fun x => am_Rn L xs d 92 11 ls (x :: st) σ Q) := am_r_aload_n d92_10
theorem r92_11 {p : Nat} : am_Rn L xs d 92 11 ls (.ref p :: st) σ Q = am_fd σ p 6 0 (fun v => am_Rn L xs d 92 14 ls (v :: st) σ Q) := am_r_getfield d92_11 rfl
theorem r92_14  : am_Rn L xs d 92 14 ls st σ Q = am_li ls 1 (fun x => am_Rn L xs d 92 15 ls (.int x :: st) σ Q) := am_r_iload_n d92_14
theorem r92_15 {p : Nat} {i : Int32} : am_Rn L xs d 92 15 ls (.int i :: .ref p :: st) σ Q = am_ai 0 σ p i (fun x => am_Rn L xs d 92 16 ls (.int x :: st) σ Q) := am_r_iaload d92_15
theorem r92_16 {a b : Int32} : am_Rn L xs d 92 16 ls (.int b :: .int a :: st) σ Q = if b ≤ a then am_Rn L xs d 92 52 ls st σ Q else am_Rn L xs d 92 19 ls st σ Q := (am_r_icmp (t := 52) d92_16 (by decide)).trans (am_ite _ _ trivial (by simp only [am_cond, decide_eq_true_eq]))
theorem r92_19  : am_Rn L xs d 92 19 ls st σ Q = am_la ls 0 (fun x => am_Rn L xs d 92 20 ls (x :: st) σ Q) := am_r_aload_n d92_19
theorem r92_20 {p : Nat} : am_Rn L xs d 92 20 ls (.ref p :: st) σ Q = am_fd σ p 6 1 (fun v => am_Rn L xs d 92 23 ls (v :: st) σ Q) := am_r_getfield d92_20 rfl
theorem r92_23  : am_Rn L xs d 92 23 ls st σ Q = am_Rn L xs d 92 25 ls (.int 12 :: st) σ Q := am_r_bipush d92_23 (by decide)
theorem r92_25  : am_Rn L xs d 92 25 ls st σ Q = am_li ls 1 (fun x => am_Rn L xs d 92 26 ls (.int x :: st) σ Q) := am_r_iload_n d92_25
theorem r92_26 {a b : Int32} : am_Rn L xs d 92 26 ls (.int b :: .int a :: st) σ Q = am_Rn L xs d 92 27 ls (.int (a * b) :: st) σ Q := am_r_imul d92_26
theorem r92_27  : am_Rn L xs d 92 27 ls st σ Q = am_li ls 5 (fun x => am_Rn L xs d 92 29 ls (.int x :: st) σ Q) := am_r_iload d92_27
theorem r92_29 {a b : Int32} : am_Rn L xs d 92 29 ls (.int b :: .int a :: st) σ Q = am_Rn L xs d 92 30 ls (.int (a + b) :: st) σ Q := am_r_iadd d92_29
theorem r92_30 {p : Nat} {i : Int32} : am_Rn L xs d 92 30 ls (.int i :: .ref p :: st) σ Q = am_ai 0 σ p i (fun x => am_Rn L xs d 92 31 ls (.int x :: st) σ Q) := am_r_iaload d92_30
theorem r92_31  : am_Rn L xs d 92 31 ls st σ Q = am_li ls 2 (fun x => am_Rn L xs d 92 32 ls (.int x :: st) σ Q) := am_r_iload_n d92_31
theorem r92_32 {a b : Int32} : am_Rn L xs d 92 32 ls (.int b :: .int a :: st) σ Q = if ¬ a = b then am_Rn L xs d 92 46 ls st σ Q else am_Rn L xs d 92 35 ls st σ Q := (am_r_icmp (t := 46) d92_32 (by decide)).trans (am_ite _ _ trivial (by simp only [am_cond, decide_eq_true_eq]))
theorem r92_35  : am_Rn L xs d 92 35 ls st σ Q = am_li ls 4 (fun x => am_Rn L xs d 92 37 ls (.int x :: st) σ Q) := am_r_iload d92_35
theorem r92_37 {a : Int32} : am_Rn L xs d 92 37 ls (.int a :: st) σ Q = if ¬ a = 0 then am_Rn L xs d 92 43 ls st σ Q else am_Rn L xs d 92 40 ls st σ Q := (am_r_if (t := 43) d92_37 (by decide)).trans (am_ite _ _ trivial (by simp only [am_cond, decide_eq_true_eq]))
theorem r92_40  : am_Rn L xs d 92 40 ls st σ Q = am_li ls 5 (fun x => am_Rn L xs d 92 42 ls (.int x :: st) σ Q) := am_r_iload d92_40
theorem r92_42 {v : Int32} : am_Rn L xs d 92 42 ls [.int v] σ Q = Q (some (.int v)) σ := am_r_ireturn d92_42 rfl
theorem r92_43  : am_Rn L xs d 92 43 ls st σ Q = am_li ls 4 (fun x => am_Rn L xs d 92 46 (ls.set 4 (.int (x + (-1)))) st σ Q) := am_r_iinc d92_43 (by decide)
theorem r92_46  : am_Rn L xs d 92 46 ls st σ Q = am_li ls 5 (fun x => am_Rn L xs d 92 49 (ls.set 5 (.int (x + 1))) st σ Q) := am_r_iinc d92_46 (by decide)
theorem r92_49  : am_Rn L xs d 92 49 ls st σ Q = am_Rn L xs d 92 8 ls st σ Q := am_r_goto d92_49 (by decide)
theorem r92_52  : am_Rn L xs d 92 52 ls st σ Q = am_Rn L xs d 92 53 ls (.int (-1) :: st) σ Q := am_r_iconst d92_52 (by decide)
theorem r92_53 {v : Int32} : am_Rn L xs d 92 53 ls [.int v] σ Q = Q (some (.int v)) σ := am_r_ireturn d92_53 rfl
theorem d93_0 : decode (pg_code 93) 0 = .ok (.iload_n 1, 1) := by decide +kernel
theorem d93_1 : decode (pg_code 93) 1 = .ok (.invokestatic 113, 3) := by decide +kernel
theorem d93_4 : decode (pg_code 93) 4 = .ok (.ifCond .eq 28, 3) := by decide +kernel
theorem d93_7 : decode (pg_code 93) 7 = .ok (.iload_n 2, 1) := by decide +kernel
theorem d93_8 : decode (pg_code 93) 8 = .ok (.invokestatic 113, 3) := by decide +kernel
theorem d93_11 : decode (pg_code 93) 11 = .ok (.ifCond .eq 21, 3) := by decide +kernel
theorem d93_14 : decode (pg_code 93) 14 = .ok (.aload_n 0, 1) := by decide +kernel
theorem d93_15 : decode (pg_code 93) 15 = .ok (.getfield 7, 3) := by decide +kernel
theorem d93_18 : decode (pg_code 93) 18 = .ok (.iload_n 1, 1) := by decide +kernel
theorem d93_19 : decode (pg_code 93) 19 = .ok (.iaload, 1) := by decide +kernel
theorem d93_20 : decode (pg_code 93) 20 = .ok (.ifCond .eq 12, 3) := by decide +kernel
theorem d93_23 : decode (pg_code 93) 23 = .ok (.aload_n 0, 1) := by decide +kernel
theorem d93_24 : decode (pg_code 93) 24 = .ok (.getfield 7, 3) := by decide +kernel
theorem d93_27 : decode (pg_code 93) 27 = .ok (.iload_n 2, 1) := by decide +kernel
theorem d93_28 : decode (pg_code 93) 28 = .ok (.iaload, 1) := by decide +kernel
theorem d93_29 : decode (pg_code 93) 29 = .ok (.ifCond .ne 5, 3) := by decide +kernel
theorem d93_32 : decode (pg_code 93) 32 = .ok (.iconst (-1), 1) := by decide +kernel
theorem d93_33 : decode (pg_code 93) 33 = .ok (.ireturn, 1) := by decide +kernel
theorem d93_34 : decode (pg_code 93) 34 = .ok (.aload_n 0, 1) := by decide +kernel
theorem d93_35 : decode (pg_code 93) 35 = .ok (.iload_n 1, 1) := by decide +kernel
theorem d93_36 : decode (pg_code 93) 36 = .ok (.iload_n 2, 1) := by decide +kernel
theorem d93_37 : decode (pg_code 93) 37 = .ok (.invokevirtual 184, 3) := by decide +kernel
theorem d93_40 : decode (pg_code 93) 40 = .ok (.aload_n 0, 1) := by decide +kernel
theorem d93_41 : decode (pg_code 93) 41 = .ok (.iconst 1, 1) := by decide +kernel
theorem d93_42 : decode (pg_code 93) 42 = .ok (.invokevirtual 187, 3) := by decide +kernel
theorem d93_45 : decode (pg_code 93) 45 = .ok (.aload_n 0, 1) := by decide +kernel
theorem d93_46 : decode (pg_code 93) 46 = .ok (.iconst 1, 1) := by decide +kernel
theorem d93_47 : decode (pg_code 93) 47 = .ok (.putfield 190, 3) := by decide +kernel
theorem d93_50 : decode (pg_code 93) 50 = .ok (.aload_n 0, 1) := by decide +kernel
theorem d93_51 : decode (pg_code 93) 51 = .ok (.getfield 7, 3) := by decide +kernel
theorem d93_54 : decode (pg_code 93) 54 = .ok (.iconst 3, 1) := by decide +kernel
theorem d93_55 : decode (pg_code 93) 55 = .ok (.aload_n 0, 1) := by decide +kernel
theorem d93_56 : decode (pg_code 93) 56 = .ok (.getfield 7, 3) := by decide +kernel
theorem d93_59 : decode (pg_code 93) 59 = .ok (.iload_n 1, 1) := by decide +kernel
theorem d93_60 : decode (pg_code 93) 60 = .ok (.iaload, 1) := by decide +kernel
theorem d93_61 : decode (pg_code 93) 61 = .ok (.iastore, 1) := by decide +kernel
theorem d93_62 : decode (pg_code 93) 62 = .ok (.iconst 0, 1) := by decide +kernel
theorem d93_63 : decode (pg_code 93) 63 = .ok (.istore_n 3, 1) := by decide +kernel
theorem d93_64 : decode (pg_code 93) 64 = .ok (.iload_n 3, 1) := by decide +kernel
theorem d93_65 : decode (pg_code 93) 65 = .ok (.bipush 12, 2) := by decide +kernel
theorem d93_67 : decode (pg_code 93) 67 = .ok (.if_icmp .ge 81, 3) := by decide +kernel
theorem d93_70 : decode (pg_code 93) 70 = .ok (.aload_n 0, 1) := by decide +kernel
theorem d93_71 : decode (pg_code 93) 71 = .ok (.getfield 13, 3) := by decide +kernel
theorem d93_74 : decode (pg_code 93) 74 = .ok (.bipush 36, 2) := by decide +kernel
theorem d93_76 : decode (pg_code 93) 76 = .ok (.iload_n 3, 1) := by decide +kernel
theorem d93_77 : decode (pg_code 93) 77 = .ok (.iadd, 1) := by decide +kernel
theorem d93_78 : decode (pg_code 93) 78 = .ok (.aload_n 0, 1) := by decide +kernel
theorem d93_79 : decode (pg_code 93) 79 = .ok (.getfield 13, 3) := by decide +kernel
theorem d93_82 : decode (pg_code 93) 82 = .ok (.bipush 12, 2) := by decide +kernel
theorem d93_84 : decode (pg_code 93) 84 = .ok (.iload_n 1, 1) := by decide +kernel
theorem d93_85 : decode (pg_code 93) 85 = .ok (.imul, 1) := by decide +kernel
theorem d93_86 : decode (pg_code 93) 86 = .ok (.iload_n 3, 1) := by decide +kernel
theorem d93_87 : decode (pg_code 93) 87 = .ok (.iadd, 1) := by decide +kernel
theorem d93_88 : decode (pg_code 93) 88 = .ok (.iaload, 1) := by decide +kernel
theorem d93_89 : decode (pg_code 93) 89 = .ok (.iastore, 1) := by decide +kernel
theorem d93_90 : decode (pg_code 93) 90 = .ok (.aload_n 0, 1) := by decide +kernel
theorem d93_91 : decode (pg_code 93) 91 = .ok (.getfield 16, 3) := by decide +kernel
theorem d93_94 : decode (pg_code 93) 94 = .ok (.bipush 36, 2) := by decide +kernel
theorem d93_96 : decode (pg_code 93) 96 = .ok (.iload_n 3, 1) := by decide +kernel
theorem d93_97 : decode (pg_code 93) 97 = .ok (.iadd, 1) := by decide +kernel
theorem d93_98 : decode (pg_code 93) 98 = .ok (.aload_n 0, 1) := by decide +kernel
theorem d93_99 : decode (pg_code 93) 99 = .ok (.getfield 16, 3) := by decide +kernel
theorem d93_102 : decode (pg_code 93) 102 = .ok (.bipush 12, 2) := by decide +kernel
theorem d93_104 : decode (pg_code 93) 104 = .ok (.iload_n 1, 1) := by decide +kernel
theorem d93_105 : decode (pg_code 93) 105 = .ok (.imul, 1) := by decide +kernel
theorem d93_106 : decode (pg_code 93) 106 = .ok (.iload_n 3, 1) := by decide +kernel
theorem d93_107 : decode (pg_code 93) 107 = .ok (.iadd, 1) := by decide +kernel
theorem d93_108 : decode (pg_code 93) 108 = .ok (.iaload, 1) := by decide +kernel
theorem d93_109 : decode (pg_code 93) 109 = .ok (.iastore, 1) := by decide +kernel
theorem d93_110 : decode (pg_code 93) 110 = .ok (.aload_n 0, 1) := by decide +kernel
theorem d93_111 : decode (pg_code 93) 111 = .ok (.getfield 19, 3) := by decide +kernel
theorem d93_114 : decode (pg_code 93) 114 = .ok (.bipush 36, 2) := by decide +kernel
theorem d93_116 : decode (pg_code 93) 116 = .ok (.iload_n 3, 1) := by decide +kernel
theorem d93_117 : decode (pg_code 93) 117 = .ok (.iadd, 1) := by decide +kernel
theorem d93_118 : decode (pg_code 93) 118 = .ok (.aload_n 0, 1) := by decide +kernel
theorem d93_119 : decode (pg_code 93) 119 = .ok (.getfield 19, 3) := by decide +kernel
theorem d93_122 : decode (pg_code 93) 122 = .ok (.bipush 12, 2) := by decide +kernel
theorem d93_124 : decode (pg_code 93) 124 = .ok (.iload_n 1, 1) := by decide +kernel
theorem d93_125 : decode (pg_code 93) 125 = .ok (.imul, 1) := by decide +kernel
theorem d93_126 : decode (pg_code 93) 126 = .ok (.iload_n 3, 1) := by decide +kernel
theorem d93_127 : decode (pg_code 93) 127 = .ok (.iadd, 1) := by decide +kernel
theorem d93_128 : decode (pg_code 93) 128 = .ok (.iaload, 1) := by decide +kernel
theorem d93_129 : decode (pg_code 93) 129 = .ok (.iastore, 1) := by decide +kernel
theorem d93_130 : decode (pg_code 93) 130 = .ok (.aload_n 0, 1) := by decide +kernel
theorem d93_131 : decode (pg_code 93) 131 = .ok (.getfield 83, 3) := by decide +kernel
theorem d93_134 : decode (pg_code 93) 134 = .ok (.iload_n 3, 1) := by decide +kernel
theorem d93_135 : decode (pg_code 93) 135 = .ok (.aload_n 0, 1) := by decide +kernel
theorem d93_136 : decode (pg_code 93) 136 = .ok (.getfield 22, 3) := by decide +kernel
theorem d93_139 : decode (pg_code 93) 139 = .ok (.iload_n 3, 1) := by decide +kernel
theorem d93_140 : decode (pg_code 93) 140 = .ok (.iaload, 1) := by decide +kernel
theorem d93_141 : decode (pg_code 93) 141 = .ok (.iastore, 1) := by decide +kernel
theorem d93_142 : decode (pg_code 93) 142 = .ok (.iinc 3 1, 3) := by decide +kernel
theorem d93_145 : decode (pg_code 93) 145 = .ok (.goto (-81), 3) := by decide +kernel
theorem d93_148 : decode (pg_code 93) 148 = .ok (.aload_n 0, 1) := by decide +kernel
theorem d93_149 : decode (pg_code 93) 149 = .ok (.getfield 59, 3) := by decide +kernel
theorem d93_152 : decode (pg_code 93) 152 = .ok (.iconst 1, 1) := by decide +kernel
theorem d93_153 : decode (pg_code 93) 153 = .ok (.iaload, 1) := by decide +kernel
theorem d93_154 : decode (pg_code 93) 154 = .ok (.ireturn, 1) := by decide +kernel
theorem e93 {b1 b2 b3 : Value} : am_Call L xs d 93 [b1, b2, b3] σ Q = am_Rn L xs d 93 0 [b1, b2, b3, .retAddr 0] [] σ Q := rfl
theorem r93_0  : am_Rn L xs d 93 0 ls st σ Q = am_li ls 1 (fun x => am_Rn L xs d 93 1 ls (.int x :: st) σ Q) := am_r_iload_n d93_0
theorem r93_1 {a1 : Value} : am_Rn L xs (d + 1) 93 1 ls (a1 :: st) σ Q = ((st.length ≤ 4 ∧ am_ok a1 = true) ∧ am_Call L xs d 85 [a1] σ (fun r σ1 => am_Rn L xs (d + 1) 93 4 ls (r.toList ++ st) σ1 Q)) := am_R_static1 d93_1 rfl ⟨by decide, rfl⟩ rfl (by decide)
theorem r93_4 {a : Int32} : am_Rn L xs d 93 4 ls (.int a :: st) σ Q = if a = 0 then am_Rn L xs d 93 32 ls st σ Q else am_Rn L xs d 93 7 ls st σ Q := (am_r_if (t := 32) d93_4 (by decide)).trans (am_ite _ _ trivial (by simp only [am_cond, decide_eq_true_eq]))
theorem r93_7  : am_Rn L xs d 93 7 ls st σ Q = am_li ls 2 (fun x => am_Rn L xs d 93 8 ls (.int x :: st) σ Q) := am_r_iload_n d93_7
theorem r93_8 {a1 : Value} : am_Rn L xs (d + 1) 93 8 ls (a1 :: st) σ Q = ((st.length ≤ 4 ∧ am_ok a1 = true) ∧ am_Call L xs d 85 [a1] σ (fun r σ1 => am_Rn L xs (d + 1) 93 11 ls (r.toList ++ st) σ1 Q)) := am_R_static1 d93_8 rfl ⟨by decide, rfl⟩ rfl (by decide)
theorem r93_11 {a : Int32} : am_Rn L xs d 93 11 ls (.int a :: st) σ Q = if a = 0 then am_Rn L xs d 93 32 ls st σ Q else am_Rn L xs d 93 14 ls st σ Q := (am_r_if (t := 32) d93_11 (by decide)).trans (am_ite _ _ trivial (by simp only [am_cond, decide_eq_true_eq]))
theorem r93_14  : am_Rn L xs d 93 14 ls st σ Q = am_la ls 0 (fun x => am_Rn L xs d 93 15 ls (x :: st) σ Q) := am_r_aload_n d93_14
theorem r93_15 {p : Nat} : am_Rn L xs d 93 15 ls (.ref p :: st) σ Q = am_fd σ p 6 0 (fun v => am_Rn L xs d 93 18 ls (v :: st) σ Q) := am_r_getfield d93_15 rfl
theorem r93_18  : am_Rn L xs d 93 18 ls st σ Q = am_li ls 1 (fun x => am_Rn L xs d 93 19 ls (.int x :: st) σ Q) := am_r_iload_n d93_18
theorem r93_19 {p : Nat} {i : Int32} : am_Rn L xs d 93 19 ls (.int i :: .ref p :: st) σ Q = am_ai 0 σ p i (fun x => am_Rn L xs d 93 20 ls (.int x :: st) σ Q) := am_r_iaload d93_19
theorem r93_20 {a : Int32} : am_Rn L xs d 93 20 ls (.int a :: st) σ Q = if a = 0 then am_Rn L xs d 93 32 ls st σ Q else am_Rn L xs d 93 23 ls st σ Q := (am_r_if (t := 32) d93_20 (by decide)).trans (am_ite _ _ trivial (by simp only [am_cond, decide_eq_true_eq]))
theorem r93_23  : am_Rn L xs d 93 23 ls st σ Q = am_la ls 0 (fun x => am_Rn L xs d 93 24 ls (x :: st) σ Q) := am_r_aload_n d93_23
theorem r93_24 {p : Nat} : am_Rn L xs d 93 24 ls (.ref p :: st) σ Q = am_fd σ p 6 0 (fun v => am_Rn L xs d 93 27 ls (v :: st) σ Q) := am_r_getfield d93_24 rfl
theorem r93_27  : am_Rn L xs d 93 27 ls st σ Q = am_li ls 2 (fun x => am_Rn L xs d 93 28 ls (.int x :: st) σ Q) := am_r_iload_n d93_27
theorem r93_28 {p : Nat} {i : Int32} : am_Rn L xs d 93 28 ls (.int i :: .ref p :: st) σ Q = am_ai 0 σ p i (fun x => am_Rn L xs d 93 29 ls (.int x :: st) σ Q) := am_r_iaload d93_28
theorem r93_29 {a : Int32} : am_Rn L xs d 93 29 ls (.int a :: st) σ Q = if ¬ a = 0 then am_Rn L xs d 93 34 ls st σ Q else am_Rn L xs d 93 32 ls st σ Q := (am_r_if (t := 34) d93_29 (by decide)).trans (am_ite _ _ trivial (by simp only [am_cond, decide_eq_true_eq]))
theorem r93_32  : am_Rn L xs d 93 32 ls st σ Q = am_Rn L xs d 93 33 ls (.int (-1) :: st) σ Q := am_r_iconst d93_32 (by decide)
theorem r93_33 {v : Int32} : am_Rn L xs d 93 33 ls [.int v] σ Q = Q (some (.int v)) σ := am_r_ireturn d93_33 rfl
theorem r93_34  : am_Rn L xs d 93 34 ls st σ Q = am_la ls 0 (fun x => am_Rn L xs d 93 35 ls (x :: st) σ Q) := am_r_aload_n d93_34
theorem r93_35  : am_Rn L xs d 93 35 ls st σ Q = am_li ls 1 (fun x => am_Rn L xs d 93 36 ls (.int x :: st) σ Q) := am_r_iload_n d93_35
theorem r93_36  : am_Rn L xs d 93 36 ls st σ Q = am_li ls 2 (fun x => am_Rn L xs d 93 37 ls (.int x :: st) σ Q) := am_r_iload_n d93_36
theorem r93_37 {a1 a2 : Value} {p : Nat} : am_Rn L xs (d + 1) 93 37 ls (a2 :: a1 :: .ref p :: st) σ Q = ((am_oc σ p = 6 ∧ st.length ≤ 4 ∧ am_ok a1 = true ∧ am_ok a2 = true) ∧ am_Call L xs d 94 [.ref p, a1, a2] σ (fun r σ1 => am_Rn L xs (d + 1) 93 40 ls (r.toList ++ st) σ1 Q)) := am_R_virtual2 d93_37 rfl ⟨by decide, rfl⟩ rfl rfl (by decide)
theorem r93_40  : am_Rn L xs d 93 40 ls st σ Q = am_la ls 0 (fun x => am_Rn L xs d 93 41 ls (x :: st) σ Q) := am_r_aload_n d93_40
theorem r93_41  : am_Rn L xs d 93 41 ls st σ Q = am_Rn L xs d 93 42 ls (.int 1 :: st) σ Q := am_r_iconst d93_41 (by decide)
theorem r93_42 {a1 : Value} {p : Nat} : am_Rn L xs (d + 1) 93 42 ls (a1 :: .ref p :: st) σ Q = ((am_oc σ p = 6 ∧ st.length ≤ 4 ∧ am_ok a1 = true) ∧ am_Call L xs d 108 [.ref p, a1] σ (fun r σ1 => am_Rn L xs (d + 1) 93 45 ls (r.toList ++ st) σ1 Q)) := am_R_virtual1 d93_42 rfl ⟨by decide, rfl⟩ rfl rfl (by decide)
theorem r93_45  : am_Rn L xs d 93 45 ls st σ Q = am_la ls 0 (fun x => am_Rn L xs d 93 46 ls (x :: st) σ Q) := am_r_aload_n d93_45
theorem r93_46  : am_Rn L xs d 93 46 ls st σ Q = am_Rn L xs d 93 47 ls (.int 1 :: st) σ Q := am_r_iconst d93_46 (by decide)
theorem r93_47 {p : Nat} {v : Value} : am_Rn L xs d 93 47 ls (v :: .ref p :: st) σ Q = am_wf 93 6 σ p 6 26 v (fun σ1 => am_Rn L xs d 93 50 ls st σ1 Q) := am_r_putfield d93_47 rfl
theorem r93_50  : am_Rn L xs d 93 50 ls st σ Q = am_la ls 0 (fun x => am_Rn L xs d 93 51 ls (x :: st) σ Q) := am_r_aload_n d93_50
theorem r93_51 {p : Nat} : am_Rn L xs d 93 51 ls (.ref p :: st) σ Q = am_fd σ p 6 0 (fun v => am_Rn L xs d 93 54 ls (v :: st) σ Q) := am_r_getfield d93_51 rfl
theorem r93_54  : am_Rn L xs d 93 54 ls st σ Q = am_Rn L xs d 93 55 ls (.int 3 :: st) σ Q := am_r_iconst d93_54 (by decide)
theorem r93_55  : am_Rn L xs d 93 55 ls st σ Q = am_la ls 0 (fun x => am_Rn L xs d 93 56 ls (x :: st) σ Q) := am_r_aload_n d93_55
theorem r93_56 {p : Nat} : am_Rn L xs d 93 56 ls (.ref p :: st) σ Q = am_fd σ p 6 0 (fun v => am_Rn L xs d 93 59 ls (v :: st) σ Q) := am_r_getfield d93_56 rfl
theorem r93_59  : am_Rn L xs d 93 59 ls st σ Q = am_li ls 1 (fun x => am_Rn L xs d 93 60 ls (.int x :: st) σ Q) := am_r_iload_n d93_59
theorem r93_60 {p : Nat} {i : Int32} : am_Rn L xs d 93 60 ls (.int i :: .ref p :: st) σ Q = am_ai 0 σ p i (fun x => am_Rn L xs d 93 61 ls (.int x :: st) σ Q) := am_r_iaload d93_60
theorem r93_61 {p : Nat} {i x : Int32} : am_Rn L xs d 93 61 ls (.int x :: .int i :: .ref p :: st) σ Q = am_wi 0 σ p i x (fun σ1 => am_Rn L xs d 93 62 ls st σ1 Q) := am_r_iastore d93_61
theorem r93_62  : am_Rn L xs d 93 62 ls st σ Q = am_Rn L xs d 93 63 ls (.int 0 :: st) σ Q := am_r_iconst d93_62 (by decide)
theorem r93_63 {x : Int32} : am_Rn L xs d 93 63 ls (.int x :: st) σ Q = (3 < ls.length ∧ am_Rn L xs d 93 64 (ls.set 3 (.int x)) st σ Q) := am_r_istore_n d93_63
theorem r93_64  : am_Rn L xs d 93 64 ls st σ Q = am_li ls 3 (fun x => am_Rn L xs d 93 65 ls (.int x :: st) σ Q) := am_r_iload_n d93_64
theorem r93_65  : am_Rn L xs d 93 65 ls st σ Q = am_Rn L xs d 93 67 ls (.int 12 :: st) σ Q := am_r_bipush d93_65 (by decide)
theorem r93_67 {a b : Int32} : am_Rn L xs d 93 67 ls (.int b :: .int a :: st) σ Q = if b ≤ a then am_Rn L xs d 93 148 ls st σ Q else am_Rn L xs d 93 70 ls st σ Q := (am_r_icmp (t := 148) d93_67 (by decide)).trans (am_ite _ _ trivial (by simp only [am_cond, decide_eq_true_eq]))
theorem r93_70  : am_Rn L xs d 93 70 ls st σ Q = am_la ls 0 (fun x => am_Rn L xs d 93 71 ls (x :: st) σ Q) := am_r_aload_n d93_70
theorem r93_71 {p : Nat} : am_Rn L xs d 93 71 ls (.ref p :: st) σ Q = am_fd σ p 6 1 (fun v => am_Rn L xs d 93 74 ls (v :: st) σ Q) := am_r_getfield d93_71 rfl
theorem r93_74  : am_Rn L xs d 93 74 ls st σ Q = am_Rn L xs d 93 76 ls (.int 36 :: st) σ Q := am_r_bipush d93_74 (by decide)
theorem r93_76  : am_Rn L xs d 93 76 ls st σ Q = am_li ls 3 (fun x => am_Rn L xs d 93 77 ls (.int x :: st) σ Q) := am_r_iload_n d93_76
theorem r93_77 {a b : Int32} : am_Rn L xs d 93 77 ls (.int b :: .int a :: st) σ Q = am_Rn L xs d 93 78 ls (.int (a + b) :: st) σ Q := am_r_iadd d93_77
theorem r93_78  : am_Rn L xs d 93 78 ls st σ Q = am_la ls 0 (fun x => am_Rn L xs d 93 79 ls (x :: st) σ Q) := am_r_aload_n d93_78
theorem r93_79 {p : Nat} : am_Rn L xs d 93 79 ls (.ref p :: st) σ Q = am_fd σ p 6 1 (fun v => am_Rn L xs d 93 82 ls (v :: st) σ Q) := am_r_getfield d93_79 rfl
theorem r93_82  : am_Rn L xs d 93 82 ls st σ Q = am_Rn L xs d 93 84 ls (.int 12 :: st) σ Q := am_r_bipush d93_82 (by decide)
theorem r93_84  : am_Rn L xs d 93 84 ls st σ Q = am_li ls 1 (fun x => am_Rn L xs d 93 85 ls (.int x :: st) σ Q) := am_r_iload_n d93_84
theorem r93_85 {a b : Int32} : am_Rn L xs d 93 85 ls (.int b :: .int a :: st) σ Q = am_Rn L xs d 93 86 ls (.int (a * b) :: st) σ Q := am_r_imul d93_85
theorem r93_86  : am_Rn L xs d 93 86 ls st σ Q = am_li ls 3 (fun x => am_Rn L xs d 93 87 ls (.int x :: st) σ Q) := am_r_iload_n d93_86
theorem r93_87 {a b : Int32} : am_Rn L xs d 93 87 ls (.int b :: .int a :: st) σ Q = am_Rn L xs d 93 88 ls (.int (a + b) :: st) σ Q := am_r_iadd d93_87
theorem r93_88 {p : Nat} {i : Int32} : am_Rn L xs d 93 88 ls (.int i :: .ref p :: st) σ Q = am_ai 0 σ p i (fun x => am_Rn L xs d 93 89 ls (.int x :: st) σ Q) := am_r_iaload d93_88
theorem r93_89 {p : Nat} {i x : Int32} : am_Rn L xs d 93 89 ls (.int x :: .int i :: .ref p :: st) σ Q = am_wi 0 σ p i x (fun σ1 => am_Rn L xs d 93 90 ls st σ1 Q) := am_r_iastore d93_89
theorem r93_90  : am_Rn L xs d 93 90 ls st σ Q = am_la ls 0 (fun x => am_Rn L xs d 93 91 ls (x :: st) σ Q) := am_r_aload_n d93_90
theorem r93_91 {p : Nat} : am_Rn L xs d 93 91 ls (.ref p :: st) σ Q = am_fd σ p 6 2 (fun v => am_Rn L xs d 93 94 ls (v :: st) σ Q) := am_r_getfield d93_91 rfl
theorem r93_94  : am_Rn L xs d 93 94 ls st σ Q = am_Rn L xs d 93 96 ls (.int 36 :: st) σ Q := am_r_bipush d93_94 (by decide)
theorem r93_96  : am_Rn L xs d 93 96 ls st σ Q = am_li ls 3 (fun x => am_Rn L xs d 93 97 ls (.int x :: st) σ Q) := am_r_iload_n d93_96
theorem r93_97 {a b : Int32} : am_Rn L xs d 93 97 ls (.int b :: .int a :: st) σ Q = am_Rn L xs d 93 98 ls (.int (a + b) :: st) σ Q := am_r_iadd d93_97
theorem r93_98  : am_Rn L xs d 93 98 ls st σ Q = am_la ls 0 (fun x => am_Rn L xs d 93 99 ls (x :: st) σ Q) := am_r_aload_n d93_98
theorem r93_99 {p : Nat} : am_Rn L xs d 93 99 ls (.ref p :: st) σ Q = am_fd σ p 6 2 (fun v => am_Rn L xs d 93 102 ls (v :: st) σ Q) := am_r_getfield d93_99 rfl
theorem r93_102  : am_Rn L xs d 93 102 ls st σ Q = am_Rn L xs d 93 104 ls (.int 12 :: st) σ Q := am_r_bipush d93_102 (by decide)
theorem r93_104  : am_Rn L xs d 93 104 ls st σ Q = am_li ls 1 (fun x => am_Rn L xs d 93 105 ls (.int x :: st) σ Q) := am_r_iload_n d93_104
theorem r93_105 {a b : Int32} : am_Rn L xs d 93 105 ls (.int b :: .int a :: st) σ Q = am_Rn L xs d 93 106 ls (.int (a * b) :: st) σ Q := am_r_imul d93_105
theorem r93_106  : am_Rn L xs d 93 106 ls st σ Q = am_li ls 3 (fun x => am_Rn L xs d 93 107 ls (.int x :: st) σ Q) := am_r_iload_n d93_106
theorem r93_107 {a b : Int32} : am_Rn L xs d 93 107 ls (.int b :: .int a :: st) σ Q = am_Rn L xs d 93 108 ls (.int (a + b) :: st) σ Q := am_r_iadd d93_107
theorem r93_108 {p : Nat} {i : Int32} : am_Rn L xs d 93 108 ls (.int i :: .ref p :: st) σ Q = am_ai 0 σ p i (fun x => am_Rn L xs d 93 109 ls (.int x :: st) σ Q) := am_r_iaload d93_108
theorem r93_109 {p : Nat} {i x : Int32} : am_Rn L xs d 93 109 ls (.int x :: .int i :: .ref p :: st) σ Q = am_wi 0 σ p i x (fun σ1 => am_Rn L xs d 93 110 ls st σ1 Q) := am_r_iastore d93_109
theorem r93_110  : am_Rn L xs d 93 110 ls st σ Q = am_la ls 0 (fun x => am_Rn L xs d 93 111 ls (x :: st) σ Q) := am_r_aload_n d93_110
theorem r93_111 {p : Nat} : am_Rn L xs d 93 111 ls (.ref p :: st) σ Q = am_fd σ p 6 3 (fun v => am_Rn L xs d 93 114 ls (v :: st) σ Q) := am_r_getfield d93_111 rfl
theorem r93_114  : am_Rn L xs d 93 114 ls st σ Q = am_Rn L xs d 93 116 ls (.int 36 :: st) σ Q := am_r_bipush d93_114 (by decide)
theorem r93_116  : am_Rn L xs d 93 116 ls st σ Q = am_li ls 3 (fun x => am_Rn L xs d 93 117 ls (.int x :: st) σ Q) := am_r_iload_n d93_116
theorem r93_117 {a b : Int32} : am_Rn L xs d 93 117 ls (.int b :: .int a :: st) σ Q = am_Rn L xs d 93 118 ls (.int (a + b) :: st) σ Q := am_r_iadd d93_117
theorem r93_118  : am_Rn L xs d 93 118 ls st σ Q = am_la ls 0 (fun x => am_Rn L xs d 93 119 ls (x :: st) σ Q) := am_r_aload_n d93_118
theorem r93_119 {p : Nat} : am_Rn L xs d 93 119 ls (.ref p :: st) σ Q = am_fd σ p 6 3 (fun v => am_Rn L xs d 93 122 ls (v :: st) σ Q) := am_r_getfield d93_119 rfl
theorem r93_122  : am_Rn L xs d 93 122 ls st σ Q = am_Rn L xs d 93 124 ls (.int 12 :: st) σ Q := am_r_bipush d93_122 (by decide)
theorem r93_124  : am_Rn L xs d 93 124 ls st σ Q = am_li ls 1 (fun x => am_Rn L xs d 93 125 ls (.int x :: st) σ Q) := am_r_iload_n d93_124
theorem r93_125 {a b : Int32} : am_Rn L xs d 93 125 ls (.int b :: .int a :: st) σ Q = am_Rn L xs d 93 126 ls (.int (a * b) :: st) σ Q := am_r_imul d93_125
theorem r93_126  : am_Rn L xs d 93 126 ls st σ Q = am_li ls 3 (fun x => am_Rn L xs d 93 127 ls (.int x :: st) σ Q) := am_r_iload_n d93_126
theorem r93_127 {a b : Int32} : am_Rn L xs d 93 127 ls (.int b :: .int a :: st) σ Q = am_Rn L xs d 93 128 ls (.int (a + b) :: st) σ Q := am_r_iadd d93_127
theorem r93_128 {p : Nat} {i : Int32} : am_Rn L xs d 93 128 ls (.int i :: .ref p :: st) σ Q = am_ai 0 σ p i (fun x => am_Rn L xs d 93 129 ls (.int x :: st) σ Q) := am_r_iaload d93_128
theorem r93_129 {p : Nat} {i x : Int32} : am_Rn L xs d 93 129 ls (.int x :: .int i :: .ref p :: st) σ Q = am_wi 0 σ p i x (fun σ1 => am_Rn L xs d 93 130 ls st σ1 Q) := am_r_iastore d93_129
theorem r93_130  : am_Rn L xs d 93 130 ls st σ Q = am_la ls 0 (fun x => am_Rn L xs d 93 131 ls (x :: st) σ Q) := am_r_aload_n d93_130
theorem r93_131 {p : Nat} : am_Rn L xs d 93 131 ls (.ref p :: st) σ Q = am_fd σ p 6 27 (fun v => am_Rn L xs d 93 134 ls (v :: st) σ Q) := am_r_getfield d93_131 rfl
theorem r93_134  : am_Rn L xs d 93 134 ls st σ Q = am_li ls 3 (fun x => am_Rn L xs d 93 135 ls (.int x :: st) σ Q) := am_r_iload_n d93_134
theorem r93_135  : am_Rn L xs d 93 135 ls st σ Q = am_la ls 0 (fun x => am_Rn L xs d 93 136 ls (x :: st) σ Q) := am_r_aload_n d93_135
theorem r93_136 {p : Nat} : am_Rn L xs d 93 136 ls (.ref p :: st) σ Q = am_fd σ p 6 4 (fun v => am_Rn L xs d 93 139 ls (v :: st) σ Q) := am_r_getfield d93_136 rfl
theorem r93_139  : am_Rn L xs d 93 139 ls st σ Q = am_li ls 3 (fun x => am_Rn L xs d 93 140 ls (.int x :: st) σ Q) := am_r_iload_n d93_139
theorem r93_140 {p : Nat} {i : Int32} : am_Rn L xs d 93 140 ls (.int i :: .ref p :: st) σ Q = am_ai 0 σ p i (fun x => am_Rn L xs d 93 141 ls (.int x :: st) σ Q) := am_r_iaload d93_140
theorem r93_141 {p : Nat} {i x : Int32} : am_Rn L xs d 93 141 ls (.int x :: .int i :: .ref p :: st) σ Q = am_wi 0 σ p i x (fun σ1 => am_Rn L xs d 93 142 ls st σ1 Q) := am_r_iastore d93_141
theorem r93_142  : am_Rn L xs d 93 142 ls st σ Q = am_li ls 3 (fun x => am_Rn L xs d 93 145 (ls.set 3 (.int (x + 1))) st σ Q) := am_r_iinc d93_142 (by decide)
theorem r93_145  : am_Rn L xs d 93 145 ls st σ Q = am_Rn L xs d 93 64 ls st σ Q := am_r_goto d93_145 (by decide)
theorem r93_148  : am_Rn L xs d 93 148 ls st σ Q = am_la ls 0 (fun x => am_Rn L xs d 93 149 ls (x :: st) σ Q) := am_r_aload_n d93_148
theorem r93_149 {p : Nat} : am_Rn L xs d 93 149 ls (.ref p :: st) σ Q = am_fd σ p 6 18 (fun v => am_Rn L xs d 93 152 ls (v :: st) σ Q) := am_r_getfield d93_149 rfl
theorem r93_152  : am_Rn L xs d 93 152 ls st σ Q = am_Rn L xs d 93 153 ls (.int 1 :: st) σ Q := am_r_iconst d93_152 (by decide)
theorem r93_153 {p : Nat} {i : Int32} : am_Rn L xs d 93 153 ls (.int i :: .ref p :: st) σ Q = am_ai 0 σ p i (fun x => am_Rn L xs d 93 154 ls (.int x :: st) σ Q) := am_r_iaload d93_153
theorem r93_154 {v : Int32} : am_Rn L xs d 93 154 ls [.int v] σ Q = Q (some (.int v)) σ := am_r_ireturn d93_154 rfl
theorem d94_0 : decode (pg_code 94) 0 = .ok (.aload_n 0, 1) := by decide +kernel
theorem d94_1 : decode (pg_code 94) 1 = .ok (.iload_n 1, 1) := by decide +kernel
theorem d94_2 : decode (pg_code 94) 2 = .ok (.putfield 129, 3) := by decide +kernel
theorem d94_5 : decode (pg_code 94) 5 = .ok (.aload_n 0, 1) := by decide +kernel
theorem d94_6 : decode (pg_code 94) 6 = .ok (.iload_n 2, 1) := by decide +kernel
theorem d94_7 : decode (pg_code 94) 7 = .ok (.putfield 141, 3) := by decide +kernel
theorem d94_10 : decode (pg_code 94) 10 = .ok (.aload_n 0, 1) := by decide +kernel
theorem d94_11 : decode (pg_code 94) 11 = .ok (.invokevirtual 178, 3) := by decide +kernel
theorem d94_14 : decode (pg_code 94) 14 = .ok (.aload_n 0, 1) := by decide +kernel
theorem d94_15 : decode (pg_code 94) 15 = .ok (.invokevirtual 181, 3) := by decide +kernel
theorem d94_18 : decode (pg_code 94) 18 = .ok (.return_, 1) := by decide +kernel
theorem e94 {b1 b2 b3 : Value} : am_Call L xs d 94 [b1, b2, b3] σ Q = am_Rn L xs d 94 0 [b1, b2, b3] [] σ Q := rfl
theorem r94_0  : am_Rn L xs d 94 0 ls st σ Q = am_la ls 0 (fun x => am_Rn L xs d 94 1 ls (x :: st) σ Q) := am_r_aload_n d94_0
theorem r94_1  : am_Rn L xs d 94 1 ls st σ Q = am_li ls 1 (fun x => am_Rn L xs d 94 2 ls (.int x :: st) σ Q) := am_r_iload_n d94_1
theorem r94_2 {p : Nat} {v : Value} : am_Rn L xs d 94 2 ls (v :: .ref p :: st) σ Q = am_wf 94 6 σ p 6 16 v (fun σ1 => am_Rn L xs d 94 5 ls st σ1 Q) := am_r_putfield d94_2 rfl
theorem r94_5  : am_Rn L xs d 94 5 ls st σ Q = am_la ls 0 (fun x => am_Rn L xs d 94 6 ls (x :: st) σ Q) := am_r_aload_n d94_5
theorem r94_6  : am_Rn L xs d 94 6 ls st σ Q = am_li ls 2 (fun x => am_Rn L xs d 94 7 ls (.int x :: st) σ Q) := am_r_iload_n d94_6
theorem r94_7 {p : Nat} {v : Value} : am_Rn L xs d 94 7 ls (v :: .ref p :: st) σ Q = am_wf 94 6 σ p 6 17 v (fun σ1 => am_Rn L xs d 94 10 ls st σ1 Q) := am_r_putfield d94_7 rfl
theorem r94_10  : am_Rn L xs d 94 10 ls st σ Q = am_la ls 0 (fun x => am_Rn L xs d 94 11 ls (x :: st) σ Q) := am_r_aload_n d94_10
theorem r94_11 {p : Nat} : am_Rn L xs (d + 1) 94 11 ls (.ref p :: st) σ Q = ((am_oc σ p = 6 ∧ st.length ≤ 4) ∧ am_Call L xs d 95 [.ref p] σ (fun r σ1 => am_Rn L xs (d + 1) 94 14 ls (r.toList ++ st) σ1 Q)) := am_R_virtual0 d94_11 rfl ⟨by decide, rfl⟩ rfl rfl (by decide)
theorem r94_14  : am_Rn L xs d 94 14 ls st σ Q = am_la ls 0 (fun x => am_Rn L xs d 94 15 ls (x :: st) σ Q) := am_r_aload_n d94_14
theorem r94_15 {p : Nat} : am_Rn L xs (d + 1) 94 15 ls (.ref p :: st) σ Q = ((am_oc σ p = 6 ∧ st.length ≤ 4) ∧ am_Call L xs d 104 [.ref p] σ (fun r σ1 => am_Rn L xs (d + 1) 94 18 ls (r.toList ++ st) σ1 Q)) := am_R_virtual0 d94_15 rfl ⟨by decide, rfl⟩ rfl rfl (by decide)
theorem r94_18  : am_Rn L xs d 94 18 ls [] σ Q = Q none σ := am_r_return d94_18 rfl
theorem d95_0 : decode (pg_code 95) 0 = .ok (.iconst 0, 1) := by decide +kernel
theorem d95_1 : decode (pg_code 95) 1 = .ok (.istore_n 1, 1) := by decide +kernel
theorem d95_2 : decode (pg_code 95) 2 = .ok (.iload_n 1, 1) := by decide +kernel
theorem d95_3 : decode (pg_code 95) 3 = .ok (.bipush 12, 2) := by decide +kernel
theorem d95_5 : decode (pg_code 95) 5 = .ok (.if_icmp .ge 23, 3) := by decide +kernel
theorem d95_8 : decode (pg_code 95) 8 = .ok (.aload_n 0, 1) := by decide +kernel
theorem d95_9 : decode (pg_code 95) 9 = .ok (.getfield 22, 3) := by decide +kernel
theorem d95_12 : decode (pg_code 95) 12 = .ok (.iload_n 1, 1) := by decide +kernel
theorem d95_13 : decode (pg_code 95) 13 = .ok (.iconst (-1), 1) := by decide +kernel
theorem d95_14 : decode (pg_code 95) 14 = .ok (.iastore, 1) := by decide +kernel
theorem d95_15 : decode (pg_code 95) 15 = .ok (.aload_n 0, 1) := by decide +kernel
theorem d95_16 : decode (pg_code 95) 16 = .ok (.getfield 25, 3) := by decide +kernel
theorem d95_19 : decode (pg_code 95) 19 = .ok (.iload_n 1, 1) := by decide +kernel
theorem d95_20 : decode (pg_code 95) 20 = .ok (.iconst (-1), 1) := by decide +kernel
theorem d95_21 : decode (pg_code 95) 21 = .ok (.iastore, 1) := by decide +kernel
theorem d95_22 : decode (pg_code 95) 22 = .ok (.iinc 1 1, 3) := by decide +kernel
theorem d95_25 : decode (pg_code 95) 25 = .ok (.goto (-23), 3) := by decide +kernel
theorem d95_28 : decode (pg_code 95) 28 = .ok (.aload_n 0, 1) := by decide +kernel
theorem d95_29 : decode (pg_code 95) 29 = .ok (.aload_n 0, 1) := by decide +kernel
theorem d95_30 : decode (pg_code 95) 30 = .ok (.getfield 129, 3) := by decide +kernel
theorem d95_33 : decode (pg_code 95) 33 = .ok (.aload_n 0, 1) := by decide +kernel
theorem d95_34 : decode (pg_code 95) 34 = .ok (.getfield 141, 3) := by decide +kernel
theorem d95_37 : decode (pg_code 95) 37 = .ok (.invokevirtual 125, 3) := by decide +kernel
theorem d95_40 : decode (pg_code 95) 40 = .ok (.aload_n 0, 1) := by decide +kernel
theorem d95_41 : decode (pg_code 95) 41 = .ok (.invokevirtual 150, 3) := by decide +kernel
theorem d95_44 : decode (pg_code 95) 44 = .ok (.aload_n 0, 1) := by decide +kernel
theorem d95_45 : decode (pg_code 95) 45 = .ok (.invokevirtual 153, 3) := by decide +kernel
theorem d95_48 : decode (pg_code 95) 48 = .ok (.istore_n 1, 1) := by decide +kernel
theorem d95_49 : decode (pg_code 95) 49 = .ok (.iconst 0, 1) := by decide +kernel
theorem d95_50 : decode (pg_code 95) 50 = .ok (.istore_n 2, 1) := by decide +kernel
theorem d95_51 : decode (pg_code 95) 51 = .ok (.iload_n 2, 1) := by decide +kernel
theorem d95_52 : decode (pg_code 95) 52 = .ok (.bipush 12, 2) := by decide +kernel
theorem d95_54 : decode (pg_code 95) 54 = .ok (.if_icmp .ge 30, 3) := by decide +kernel
theorem d95_57 : decode (pg_code 95) 57 = .ok (.iload_n 1, 1) := by decide +kernel
theorem d95_58 : decode (pg_code 95) 58 = .ok (.ifCond .lt 26, 3) := by decide +kernel
theorem d95_61 : decode (pg_code 95) 61 = .ok (.aload_n 0, 1) := by decide +kernel
theorem d95_62 : decode (pg_code 95) 62 = .ok (.iload_n 1, 1) := by decide +kernel
theorem d95_63 : decode (pg_code 95) 63 = .ok (.bipush 12, 2) := by decide +kernel
theorem d95_65 : decode (pg_code 95) 65 = .ok (.idiv, 1) := by decide +kernel
theorem d95_66 : decode (pg_code 95) 66 = .ok (.iload_n 1, 1) := by decide +kernel
theorem d95_67 : decode (pg_code 95) 67 = .ok (.bipush 12, 2) := by decide +kernel
theorem d95_69 : decode (pg_code 95) 69 = .ok (.irem, 1) := by decide +kernel
theorem d95_70 : decode (pg_code 95) 70 = .ok (.invokevirtual 157, 3) := by decide +kernel
theorem d95_73 : decode (pg_code 95) 73 = .ok (.aload_n 0, 1) := by decide +kernel
theorem d95_74 : decode (pg_code 95) 74 = .ok (.invokevirtual 153, 3) := by decide +kernel
theorem d95_77 : decode (pg_code 95) 77 = .ok (.istore_n 1, 1) := by decide +kernel
theorem d95_78 : decode (pg_code 95) 78 = .ok (.iinc 2 1, 3) := by decide +kernel
theorem d95_81 : decode (pg_code 95) 81 = .ok (.goto (-30), 3) := by decide +kernel
theorem d95_84 : decode (pg_code 95) 84 = .ok (.aload_n 0, 1) := by decide +kernel
theorem d95_85 : decode (pg_code 95) 85 = .ok (.getfield 7, 3) := by decide +kernel
theorem d95_88 : decode (pg_code 95) 88 = .ok (.aload_n 0, 1) := by decide +kernel
theorem d95_89 : decode (pg_code 95) 89 = .ok (.getfield 129, 3) := by decide +kernel
theorem d95_92 : decode (pg_code 95) 92 = .ok (.iaload, 1) := by decide +kernel
theorem d95_93 : decode (pg_code 95) 93 = .ok (.iconst 1, 1) := by decide +kernel
theorem d95_94 : decode (pg_code 95) 94 = .ok (.isub, 1) := by decide +kernel
theorem d95_95 : decode (pg_code 95) 95 = .ok (.istore_n 2, 1) := by decide +kernel
theorem d95_96 : decode (pg_code 95) 96 = .ok (.iload_n 2, 1) := by decide +kernel
theorem d95_97 : decode (pg_code 95) 97 = .ok (.ifCond .lt 44, 3) := by decide +kernel
theorem d95_100 : decode (pg_code 95) 100 = .ok (.aload_n 0, 1) := by decide +kernel
theorem d95_101 : decode (pg_code 95) 101 = .ok (.getfield 22, 3) := by decide +kernel
theorem d95_104 : decode (pg_code 95) 104 = .ok (.iload_n 2, 1) := by decide +kernel
theorem d95_105 : decode (pg_code 95) 105 = .ok (.iaload, 1) := by decide +kernel
theorem d95_106 : decode (pg_code 95) 106 = .ok (.ifCond .ge 11, 3) := by decide +kernel
theorem d95_109 : decode (pg_code 95) 109 = .ok (.aload_n 0, 1) := by decide +kernel
theorem d95_110 : decode (pg_code 95) 110 = .ok (.iload_n 2, 1) := by decide +kernel
theorem d95_111 : decode (pg_code 95) 111 = .ok (.invokevirtual 160, 3) := by decide +kernel
theorem d95_114 : decode (pg_code 95) 114 = .ok (.goto 4, 3) := by decide +kernel
theorem d95_117 : decode (pg_code 95) 117 = .ok (.iconst (-1), 1) := by decide +kernel
theorem d95_118 : decode (pg_code 95) 118 = .ok (.istore_n 3, 1) := by decide +kernel
theorem d95_119 : decode (pg_code 95) 119 = .ok (.iload_n 3, 1) := by decide +kernel
theorem d95_120 : decode (pg_code 95) 120 = .ok (.ifCond .lt 15, 3) := by decide +kernel
theorem d95_123 : decode (pg_code 95) 123 = .ok (.aload_n 0, 1) := by decide +kernel
theorem d95_124 : decode (pg_code 95) 124 = .ok (.iload_n 2, 1) := by decide +kernel
theorem d95_125 : decode (pg_code 95) 125 = .ok (.iload_n 3, 1) := by decide +kernel
theorem d95_126 : decode (pg_code 95) 126 = .ok (.invokevirtual 147, 3) := by decide +kernel
theorem d95_129 : decode (pg_code 95) 129 = .ok (.aload_n 0, 1) := by decide +kernel
theorem d95_130 : decode (pg_code 95) 130 = .ok (.iload_n 2, 1) := by decide +kernel
theorem d95_131 : decode (pg_code 95) 131 = .ok (.iload_n 3, 1) := by decide +kernel
theorem d95_132 : decode (pg_code 95) 132 = .ok (.invokevirtual 164, 3) := by decide +kernel
theorem d95_135 : decode (pg_code 95) 135 = .ok (.iinc 2 (-1), 3) := by decide +kernel
theorem d95_138 : decode (pg_code 95) 138 = .ok (.goto (-42), 3) := by decide +kernel
theorem d95_141 : decode (pg_code 95) 141 = .ok (.aload_n 0, 1) := by decide +kernel
theorem d95_142 : decode (pg_code 95) 142 = .ok (.getfield 22, 3) := by decide +kernel
theorem d95_145 : decode (pg_code 95) 145 = .ok (.iconst 0, 1) := by decide +kernel
theorem d95_146 : decode (pg_code 95) 146 = .ok (.iaload, 1) := by decide +kernel
theorem d95_147 : decode (pg_code 95) 147 = .ok (.ifCond .ge 51, 3) := by decide +kernel
theorem d95_150 : decode (pg_code 95) 150 = .ok (.aload_n 0, 1) := by decide +kernel
theorem d95_151 : decode (pg_code 95) 151 = .ok (.getfield 25, 3) := by decide +kernel
theorem d95_154 : decode (pg_code 95) 154 = .ok (.iconst 0, 1) := by decide +kernel
theorem d95_155 : decode (pg_code 95) 155 = .ok (.iaload, 1) := by decide +kernel
theorem d95_156 : decode (pg_code 95) 156 = .ok (.ifCond .ge 42, 3) := by decide +kernel
theorem d95_159 : decode (pg_code 95) 159 = .ok (.aload_n 0, 1) := by decide +kernel
theorem d95_160 : decode (pg_code 95) 160 = .ok (.getfield 16, 3) := by decide +kernel
theorem d95_163 : decode (pg_code 95) 163 = .ok (.bipush 12, 2) := by decide +kernel
theorem d95_165 : decode (pg_code 95) 165 = .ok (.aload_n 0, 1) := by decide +kernel
theorem d95_166 : decode (pg_code 95) 166 = .ok (.getfield 129, 3) := by decide +kernel
theorem d95_169 : decode (pg_code 95) 169 = .ok (.imul, 1) := by decide +kernel
theorem d95_170 : decode (pg_code 95) 170 = .ok (.iaload, 1) := by decide +kernel
theorem d95_171 : decode (pg_code 95) 171 = .ok (.aload_n 0, 1) := by decide +kernel
theorem d95_172 : decode (pg_code 95) 172 = .ok (.getfield 16, 3) := by decide +kernel
theorem d95_175 : decode (pg_code 95) 175 = .ok (.bipush 12, 2) := by decide +kernel
theorem d95_177 : decode (pg_code 95) 177 = .ok (.aload_n 0, 1) := by decide +kernel
theorem d95_178 : decode (pg_code 95) 178 = .ok (.getfield 141, 3) := by decide +kernel
theorem d95_181 : decode (pg_code 95) 181 = .ok (.imul, 1) := by decide +kernel
theorem d95_182 : decode (pg_code 95) 182 = .ok (.iaload, 1) := by decide +kernel
theorem d95_183 : decode (pg_code 95) 183 = .ok (.if_icmp .ne 15, 3) := by decide +kernel
theorem d95_186 : decode (pg_code 95) 186 = .ok (.aload_n 0, 1) := by decide +kernel
theorem d95_187 : decode (pg_code 95) 187 = .ok (.iconst 0, 1) := by decide +kernel
theorem d95_188 : decode (pg_code 95) 188 = .ok (.iconst 0, 1) := by decide +kernel
theorem d95_189 : decode (pg_code 95) 189 = .ok (.invokevirtual 147, 3) := by decide +kernel
theorem d95_192 : decode (pg_code 95) 192 = .ok (.aload_n 0, 1) := by decide +kernel
theorem d95_193 : decode (pg_code 95) 193 = .ok (.iconst 0, 1) := by decide +kernel
theorem d95_194 : decode (pg_code 95) 194 = .ok (.iconst 0, 1) := by decide +kernel
theorem d95_195 : decode (pg_code 95) 195 = .ok (.invokevirtual 164, 3) := by decide +kernel
theorem d95_198 : decode (pg_code 95) 198 = .ok (.return_, 1) := by decide +kernel
theorem e95 {b1 : Value} : am_Call L xs d 95 [b1] σ Q = am_Rn L xs d 95 0 [b1, .retAddr 0, .retAddr 0, .retAddr 0] [] σ Q := rfl
theorem r95_0  : am_Rn L xs d 95 0 ls st σ Q = am_Rn L xs d 95 1 ls (.int 0 :: st) σ Q := am_r_iconst d95_0 (by decide)
theorem r95_1 {x : Int32} : am_Rn L xs d 95 1 ls (.int x :: st) σ Q = (1 < ls.length ∧ am_Rn L xs d 95 2 (ls.set 1 (.int x)) st σ Q) := am_r_istore_n d95_1
theorem r95_2  : am_Rn L xs d 95 2 ls st σ Q = am_li ls 1 (fun x => am_Rn L xs d 95 3 ls (.int x :: st) σ Q) := am_r_iload_n d95_2
theorem r95_3  : am_Rn L xs d 95 3 ls st σ Q = am_Rn L xs d 95 5 ls (.int 12 :: st) σ Q := am_r_bipush d95_3 (by decide)
theorem r95_5 {a b : Int32} : am_Rn L xs d 95 5 ls (.int b :: .int a :: st) σ Q = if b ≤ a then am_Rn L xs d 95 28 ls st σ Q else am_Rn L xs d 95 8 ls st σ Q := (am_r_icmp (t := 28) d95_5 (by decide)).trans (am_ite _ _ trivial (by simp only [am_cond, decide_eq_true_eq]))
theorem r95_8  : am_Rn L xs d 95 8 ls st σ Q = am_la ls 0 (fun x => am_Rn L xs d 95 9 ls (x :: st) σ Q) := am_r_aload_n d95_8
theorem r95_9 {p : Nat} : am_Rn L xs d 95 9 ls (.ref p :: st) σ Q = am_fd σ p 6 4 (fun v => am_Rn L xs d 95 12 ls (v :: st) σ Q) := am_r_getfield d95_9 rfl
theorem r95_12  : am_Rn L xs d 95 12 ls st σ Q = am_li ls 1 (fun x => am_Rn L xs d 95 13 ls (.int x :: st) σ Q) := am_r_iload_n d95_12
theorem r95_13  : am_Rn L xs d 95 13 ls st σ Q = am_Rn L xs d 95 14 ls (.int (-1) :: st) σ Q := am_r_iconst d95_13 (by decide)
theorem r95_14 {p : Nat} {i x : Int32} : am_Rn L xs d 95 14 ls (.int x :: .int i :: .ref p :: st) σ Q = am_wi 0 σ p i x (fun σ1 => am_Rn L xs d 95 15 ls st σ1 Q) := am_r_iastore d95_14
theorem r95_15  : am_Rn L xs d 95 15 ls st σ Q = am_la ls 0 (fun x => am_Rn L xs d 95 16 ls (x :: st) σ Q) := am_r_aload_n d95_15
theorem r95_16 {p : Nat} : am_Rn L xs d 95 16 ls (.ref p :: st) σ Q = am_fd σ p 6 5 (fun v => am_Rn L xs d 95 19 ls (v :: st) σ Q) := am_r_getfield d95_16 rfl
theorem r95_19  : am_Rn L xs d 95 19 ls st σ Q = am_li ls 1 (fun x => am_Rn L xs d 95 20 ls (.int x :: st) σ Q) := am_r_iload_n d95_19
theorem r95_20  : am_Rn L xs d 95 20 ls st σ Q = am_Rn L xs d 95 21 ls (.int (-1) :: st) σ Q := am_r_iconst d95_20 (by decide)
theorem r95_21 {p : Nat} {i x : Int32} : am_Rn L xs d 95 21 ls (.int x :: .int i :: .ref p :: st) σ Q = am_wi 0 σ p i x (fun σ1 => am_Rn L xs d 95 22 ls st σ1 Q) := am_r_iastore d95_21
theorem r95_22  : am_Rn L xs d 95 22 ls st σ Q = am_li ls 1 (fun x => am_Rn L xs d 95 25 (ls.set 1 (.int (x + 1))) st σ Q) := am_r_iinc d95_22 (by decide)
theorem r95_25  : am_Rn L xs d 95 25 ls st σ Q = am_Rn L xs d 95 2 ls st σ Q := am_r_goto d95_25 (by decide)
theorem r95_28  : am_Rn L xs d 95 28 ls st σ Q = am_la ls 0 (fun x => am_Rn L xs d 95 29 ls (x :: st) σ Q) := am_r_aload_n d95_28
theorem r95_29  : am_Rn L xs d 95 29 ls st σ Q = am_la ls 0 (fun x => am_Rn L xs d 95 30 ls (x :: st) σ Q) := am_r_aload_n d95_29
theorem r95_30 {p : Nat} : am_Rn L xs d 95 30 ls (.ref p :: st) σ Q = am_fd σ p 6 16 (fun v => am_Rn L xs d 95 33 ls (v :: st) σ Q) := am_r_getfield d95_30 rfl
theorem r95_33  : am_Rn L xs d 95 33 ls st σ Q = am_la ls 0 (fun x => am_Rn L xs d 95 34 ls (x :: st) σ Q) := am_r_aload_n d95_33
theorem r95_34 {p : Nat} : am_Rn L xs d 95 34 ls (.ref p :: st) σ Q = am_fd σ p 6 17 (fun v => am_Rn L xs d 95 37 ls (v :: st) σ Q) := am_r_getfield d95_34 rfl
theorem r95_37 {a1 a2 : Value} {p : Nat} : am_Rn L xs (d + 1) 95 37 ls (a2 :: a1 :: .ref p :: st) σ Q = ((am_oc σ p = 6 ∧ st.length ≤ 4 ∧ am_ok a1 = true ∧ am_ok a2 = true) ∧ am_Call L xs d 91 [.ref p, a1, a2] σ (fun r σ1 => am_Rn L xs (d + 1) 95 40 ls (r.toList ++ st) σ1 Q)) := am_R_virtual2 d95_37 rfl ⟨by decide, rfl⟩ rfl rfl (by decide)
theorem r95_40  : am_Rn L xs d 95 40 ls st σ Q = am_la ls 0 (fun x => am_Rn L xs d 95 41 ls (x :: st) σ Q) := am_r_aload_n d95_40
theorem r95_41 {p : Nat} : am_Rn L xs (d + 1) 95 41 ls (.ref p :: st) σ Q = ((am_oc σ p = 6 ∧ st.length ≤ 4) ∧ am_Call L xs d 96 [.ref p] σ (fun r σ1 => am_Rn L xs (d + 1) 95 44 ls (r.toList ++ st) σ1 Q)) := am_R_virtual0 d95_41 rfl ⟨by decide, rfl⟩ rfl rfl (by decide)
theorem r95_44  : am_Rn L xs d 95 44 ls st σ Q = am_la ls 0 (fun x => am_Rn L xs d 95 45 ls (x :: st) σ Q) := am_r_aload_n d95_44
theorem r95_45 {p : Nat} : am_Rn L xs (d + 1) 95 45 ls (.ref p :: st) σ Q = ((am_oc σ p = 6 ∧ st.length ≤ 4) ∧ am_Call L xs d 98 [.ref p] σ (fun r σ1 => am_Rn L xs (d + 1) 95 48 ls (r.toList ++ st) σ1 Q)) := am_R_virtual0 d95_45 rfl ⟨by decide, rfl⟩ rfl rfl (by decide)
theorem r95_48 {x : Int32} : am_Rn L xs d 95 48 ls (.int x :: st) σ Q = (1 < ls.length ∧ am_Rn L xs d 95 49 (ls.set 1 (.int x)) st σ Q) := am_r_istore_n d95_48
theorem r95_49  : am_Rn L xs d 95 49 ls st σ Q = am_Rn L xs d 95 50 ls (.int 0 :: st) σ Q := am_r_iconst d95_49 (by decide)
theorem r95_50 {x : Int32} : am_Rn L xs d 95 50 ls (.int x :: st) σ Q = (2 < ls.length ∧ am_Rn L xs d 95 51 (ls.set 2 (.int x)) st σ Q) := am_r_istore_n d95_50
theorem r95_51  : am_Rn L xs d 95 51 ls st σ Q = am_li ls 2 (fun x => am_Rn L xs d 95 52 ls (.int x :: st) σ Q) := am_r_iload_n d95_51
theorem r95_52  : am_Rn L xs d 95 52 ls st σ Q = am_Rn L xs d 95 54 ls (.int 12 :: st) σ Q := am_r_bipush d95_52 (by decide)
theorem r95_54 {a b : Int32} : am_Rn L xs d 95 54 ls (.int b :: .int a :: st) σ Q = if b ≤ a then am_Rn L xs d 95 84 ls st σ Q else am_Rn L xs d 95 57 ls st σ Q := (am_r_icmp (t := 84) d95_54 (by decide)).trans (am_ite _ _ trivial (by simp only [am_cond, decide_eq_true_eq]))
theorem r95_57  : am_Rn L xs d 95 57 ls st σ Q = am_li ls 1 (fun x => am_Rn L xs d 95 58 ls (.int x :: st) σ Q) := am_r_iload_n d95_57
theorem r95_58 {a : Int32} : am_Rn L xs d 95 58 ls (.int a :: st) σ Q = if a < 0 then am_Rn L xs d 95 84 ls st σ Q else am_Rn L xs d 95 61 ls st σ Q := (am_r_if (t := 84) d95_58 (by decide)).trans (am_ite _ _ trivial (by simp only [am_cond, decide_eq_true_eq]))
theorem r95_61  : am_Rn L xs d 95 61 ls st σ Q = am_la ls 0 (fun x => am_Rn L xs d 95 62 ls (x :: st) σ Q) := am_r_aload_n d95_61
theorem r95_62  : am_Rn L xs d 95 62 ls st σ Q = am_li ls 1 (fun x => am_Rn L xs d 95 63 ls (.int x :: st) σ Q) := am_r_iload_n d95_62
theorem r95_63  : am_Rn L xs d 95 63 ls st σ Q = am_Rn L xs d 95 65 ls (.int 12 :: st) σ Q := am_r_bipush d95_63 (by decide)
theorem r95_65 {a b : Int32} : am_Rn L xs d 95 65 ls (.int b :: .int a :: st) σ Q = (b ≠ 0 ∧ am_Rn L xs d 95 66 ls (.int (a / b) :: st) σ Q) := am_r_idiv d95_65
theorem r95_66  : am_Rn L xs d 95 66 ls st σ Q = am_li ls 1 (fun x => am_Rn L xs d 95 67 ls (.int x :: st) σ Q) := am_r_iload_n d95_66
theorem r95_67  : am_Rn L xs d 95 67 ls st σ Q = am_Rn L xs d 95 69 ls (.int 12 :: st) σ Q := am_r_bipush d95_67 (by decide)
theorem r95_69 {a b : Int32} : am_Rn L xs d 95 69 ls (.int b :: .int a :: st) σ Q = (b ≠ 0 ∧ am_Rn L xs d 95 70 ls (.int (a - a / b * b) :: st) σ Q) := am_r_irem d95_69
theorem r95_70 {a1 a2 : Value} {p : Nat} : am_Rn L xs (d + 1) 95 70 ls (a2 :: a1 :: .ref p :: st) σ Q = ((am_oc σ p = 6 ∧ st.length ≤ 4 ∧ am_ok a1 = true ∧ am_ok a2 = true) ∧ am_Call L xs d 100 [.ref p, a1, a2] σ (fun r σ1 => am_Rn L xs (d + 1) 95 73 ls (r.toList ++ st) σ1 Q)) := am_R_virtual2 d95_70 rfl ⟨by decide, rfl⟩ rfl rfl (by decide)
theorem r95_73  : am_Rn L xs d 95 73 ls st σ Q = am_la ls 0 (fun x => am_Rn L xs d 95 74 ls (x :: st) σ Q) := am_r_aload_n d95_73
theorem r95_74 {p : Nat} : am_Rn L xs (d + 1) 95 74 ls (.ref p :: st) σ Q = ((am_oc σ p = 6 ∧ st.length ≤ 4) ∧ am_Call L xs d 98 [.ref p] σ (fun r σ1 => am_Rn L xs (d + 1) 95 77 ls (r.toList ++ st) σ1 Q)) := am_R_virtual0 d95_74 rfl ⟨by decide, rfl⟩ rfl rfl (by decide)
theorem r95_77 {x : Int32} : am_Rn L xs d 95 77 ls (.int x :: st) σ Q = (1 < ls.length ∧ am_Rn L xs d 95 78 (ls.set 1 (.int x)) st σ Q) := am_r_istore_n d95_77
theorem r95_78  : am_Rn L xs d 95 78 ls st σ Q = am_li ls 2 (fun x => am_Rn L xs d 95 81 (ls.set 2 (.int (x + 1))) st σ Q) := am_r_iinc d95_78 (by decide)
theorem r95_81  : am_Rn L xs d 95 81 ls st σ Q = am_Rn L xs d 95 51 ls st σ Q := am_r_goto d95_81 (by decide)
theorem r95_84  : am_Rn L xs d 95 84 ls st σ Q = am_la ls 0 (fun x => am_Rn L xs d 95 85 ls (x :: st) σ Q) := am_r_aload_n d95_84
theorem r95_85 {p : Nat} : am_Rn L xs d 95 85 ls (.ref p :: st) σ Q = am_fd σ p 6 0 (fun v => am_Rn L xs d 95 88 ls (v :: st) σ Q) := am_r_getfield d95_85 rfl
theorem r95_88  : am_Rn L xs d 95 88 ls st σ Q = am_la ls 0 (fun x => am_Rn L xs d 95 89 ls (x :: st) σ Q) := am_r_aload_n d95_88
theorem r95_89 {p : Nat} : am_Rn L xs d 95 89 ls (.ref p :: st) σ Q = am_fd σ p 6 16 (fun v => am_Rn L xs d 95 92 ls (v :: st) σ Q) := am_r_getfield d95_89 rfl
theorem r95_92 {p : Nat} {i : Int32} : am_Rn L xs d 95 92 ls (.int i :: .ref p :: st) σ Q = am_ai 0 σ p i (fun x => am_Rn L xs d 95 93 ls (.int x :: st) σ Q) := am_r_iaload d95_92
theorem r95_93  : am_Rn L xs d 95 93 ls st σ Q = am_Rn L xs d 95 94 ls (.int 1 :: st) σ Q := am_r_iconst d95_93 (by decide)
theorem r95_94 {a b : Int32} : am_Rn L xs d 95 94 ls (.int b :: .int a :: st) σ Q = am_Rn L xs d 95 95 ls (.int (a - b) :: st) σ Q := am_r_isub d95_94
theorem r95_95 {x : Int32} : am_Rn L xs d 95 95 ls (.int x :: st) σ Q = (2 < ls.length ∧ am_Rn L xs d 95 96 (ls.set 2 (.int x)) st σ Q) := am_r_istore_n d95_95
theorem r95_96  : am_Rn L xs d 95 96 ls st σ Q = am_li ls 2 (fun x => am_Rn L xs d 95 97 ls (.int x :: st) σ Q) := am_r_iload_n d95_96
theorem r95_97 {a : Int32} : am_Rn L xs d 95 97 ls (.int a :: st) σ Q = if a < 0 then am_Rn L xs d 95 141 ls st σ Q else am_Rn L xs d 95 100 ls st σ Q := (am_r_if (t := 141) d95_97 (by decide)).trans (am_ite _ _ trivial (by simp only [am_cond, decide_eq_true_eq]))
theorem r95_100  : am_Rn L xs d 95 100 ls st σ Q = am_la ls 0 (fun x => am_Rn L xs d 95 101 ls (x :: st) σ Q) := am_r_aload_n d95_100
theorem r95_101 {p : Nat} : am_Rn L xs d 95 101 ls (.ref p :: st) σ Q = am_fd σ p 6 4 (fun v => am_Rn L xs d 95 104 ls (v :: st) σ Q) := am_r_getfield d95_101 rfl
theorem r95_104  : am_Rn L xs d 95 104 ls st σ Q = am_li ls 2 (fun x => am_Rn L xs d 95 105 ls (.int x :: st) σ Q) := am_r_iload_n d95_104
theorem r95_105 {p : Nat} {i : Int32} : am_Rn L xs d 95 105 ls (.int i :: .ref p :: st) σ Q = am_ai 0 σ p i (fun x => am_Rn L xs d 95 106 ls (.int x :: st) σ Q) := am_r_iaload d95_105
theorem r95_106 {a : Int32} : am_Rn L xs d 95 106 ls (.int a :: st) σ Q = if 0 ≤ a then am_Rn L xs d 95 117 ls st σ Q else am_Rn L xs d 95 109 ls st σ Q := (am_r_if (t := 117) d95_106 (by decide)).trans (am_ite _ _ trivial (by simp only [am_cond, decide_eq_true_eq]))
theorem r95_109  : am_Rn L xs d 95 109 ls st σ Q = am_la ls 0 (fun x => am_Rn L xs d 95 110 ls (x :: st) σ Q) := am_r_aload_n d95_109
theorem r95_110  : am_Rn L xs d 95 110 ls st σ Q = am_li ls 2 (fun x => am_Rn L xs d 95 111 ls (.int x :: st) σ Q) := am_r_iload_n d95_110
theorem r95_111 {a1 : Value} {p : Nat} : am_Rn L xs (d + 1) 95 111 ls (a1 :: .ref p :: st) σ Q = ((am_oc σ p = 6 ∧ st.length ≤ 4 ∧ am_ok a1 = true) ∧ am_Call L xs d 102 [.ref p, a1] σ (fun r σ1 => am_Rn L xs (d + 1) 95 114 ls (r.toList ++ st) σ1 Q)) := am_R_virtual1 d95_111 rfl ⟨by decide, rfl⟩ rfl rfl (by decide)
theorem r95_114  : am_Rn L xs d 95 114 ls st σ Q = am_Rn L xs d 95 118 ls st σ Q := am_r_goto d95_114 (by decide)
theorem r95_117  : am_Rn L xs d 95 117 ls st σ Q = am_Rn L xs d 95 118 ls (.int (-1) :: st) σ Q := am_r_iconst d95_117 (by decide)
theorem r95_118 {x : Int32} : am_Rn L xs d 95 118 ls (.int x :: st) σ Q = (3 < ls.length ∧ am_Rn L xs d 95 119 (ls.set 3 (.int x)) st σ Q) := am_r_istore_n d95_118
theorem r95_119  : am_Rn L xs d 95 119 ls st σ Q = am_li ls 3 (fun x => am_Rn L xs d 95 120 ls (.int x :: st) σ Q) := am_r_iload_n d95_119
theorem r95_120 {a : Int32} : am_Rn L xs d 95 120 ls (.int a :: st) σ Q = if a < 0 then am_Rn L xs d 95 135 ls st σ Q else am_Rn L xs d 95 123 ls st σ Q := (am_r_if (t := 135) d95_120 (by decide)).trans (am_ite _ _ trivial (by simp only [am_cond, decide_eq_true_eq]))
theorem r95_123  : am_Rn L xs d 95 123 ls st σ Q = am_la ls 0 (fun x => am_Rn L xs d 95 124 ls (x :: st) σ Q) := am_r_aload_n d95_123
theorem r95_124  : am_Rn L xs d 95 124 ls st σ Q = am_li ls 2 (fun x => am_Rn L xs d 95 125 ls (.int x :: st) σ Q) := am_r_iload_n d95_124
theorem r95_125  : am_Rn L xs d 95 125 ls st σ Q = am_li ls 3 (fun x => am_Rn L xs d 95 126 ls (.int x :: st) σ Q) := am_r_iload_n d95_125
theorem r95_126 {a1 a2 : Value} {p : Nat} : am_Rn L xs (d + 1) 95 126 ls (a2 :: a1 :: .ref p :: st) σ Q = ((am_oc σ p = 6 ∧ st.length ≤ 4 ∧ am_ok a1 = true ∧ am_ok a2 = true) ∧ am_Call L xs d 101 [.ref p, a1, a2] σ (fun r σ1 => am_Rn L xs (d + 1) 95 129 ls (r.toList ++ st) σ1 Q)) := am_R_virtual2 d95_126 rfl ⟨by decide, rfl⟩ rfl rfl (by decide)
theorem r95_129  : am_Rn L xs d 95 129 ls st σ Q = am_la ls 0 (fun x => am_Rn L xs d 95 130 ls (x :: st) σ Q) := am_r_aload_n d95_129
theorem r95_130  : am_Rn L xs d 95 130 ls st σ Q = am_li ls 2 (fun x => am_Rn L xs d 95 131 ls (.int x :: st) σ Q) := am_r_iload_n d95_130
theorem r95_131  : am_Rn L xs d 95 131 ls st σ Q = am_li ls 3 (fun x => am_Rn L xs d 95 132 ls (.int x :: st) σ Q) := am_r_iload_n d95_131
theorem r95_132 {a1 a2 : Value} {p : Nat} : am_Rn L xs (d + 1) 95 132 ls (a2 :: a1 :: .ref p :: st) σ Q = ((am_oc σ p = 6 ∧ st.length ≤ 4 ∧ am_ok a1 = true ∧ am_ok a2 = true) ∧ am_Call L xs d 103 [.ref p, a1, a2] σ (fun r σ1 => am_Rn L xs (d + 1) 95 135 ls (r.toList ++ st) σ1 Q)) := am_R_virtual2 d95_132 rfl ⟨by decide, rfl⟩ rfl rfl (by decide)
theorem r95_135  : am_Rn L xs d 95 135 ls st σ Q = am_li ls 2 (fun x => am_Rn L xs d 95 138 (ls.set 2 (.int (x + (-1)))) st σ Q) := am_r_iinc d95_135 (by decide)
theorem r95_138  : am_Rn L xs d 95 138 ls st σ Q = am_Rn L xs d 95 96 ls st σ Q := am_r_goto d95_138 (by decide)
theorem r95_141  : am_Rn L xs d 95 141 ls st σ Q = am_la ls 0 (fun x => am_Rn L xs d 95 142 ls (x :: st) σ Q) := am_r_aload_n d95_141
theorem r95_142 {p : Nat} : am_Rn L xs d 95 142 ls (.ref p :: st) σ Q = am_fd σ p 6 4 (fun v => am_Rn L xs d 95 145 ls (v :: st) σ Q) := am_r_getfield d95_142 rfl
theorem r95_145  : am_Rn L xs d 95 145 ls st σ Q = am_Rn L xs d 95 146 ls (.int 0 :: st) σ Q := am_r_iconst d95_145 (by decide)
theorem r95_146 {p : Nat} {i : Int32} : am_Rn L xs d 95 146 ls (.int i :: .ref p :: st) σ Q = am_ai 0 σ p i (fun x => am_Rn L xs d 95 147 ls (.int x :: st) σ Q) := am_r_iaload d95_146
theorem r95_147 {a : Int32} : am_Rn L xs d 95 147 ls (.int a :: st) σ Q = if 0 ≤ a then am_Rn L xs d 95 198 ls st σ Q else am_Rn L xs d 95 150 ls st σ Q := (am_r_if (t := 198) d95_147 (by decide)).trans (am_ite _ _ trivial (by simp only [am_cond, decide_eq_true_eq]))
theorem r95_150  : am_Rn L xs d 95 150 ls st σ Q = am_la ls 0 (fun x => am_Rn L xs d 95 151 ls (x :: st) σ Q) := am_r_aload_n d95_150
theorem r95_151 {p : Nat} : am_Rn L xs d 95 151 ls (.ref p :: st) σ Q = am_fd σ p 6 5 (fun v => am_Rn L xs d 95 154 ls (v :: st) σ Q) := am_r_getfield d95_151 rfl
theorem r95_154  : am_Rn L xs d 95 154 ls st σ Q = am_Rn L xs d 95 155 ls (.int 0 :: st) σ Q := am_r_iconst d95_154 (by decide)
theorem r95_155 {p : Nat} {i : Int32} : am_Rn L xs d 95 155 ls (.int i :: .ref p :: st) σ Q = am_ai 0 σ p i (fun x => am_Rn L xs d 95 156 ls (.int x :: st) σ Q) := am_r_iaload d95_155
theorem r95_156 {a : Int32} : am_Rn L xs d 95 156 ls (.int a :: st) σ Q = if 0 ≤ a then am_Rn L xs d 95 198 ls st σ Q else am_Rn L xs d 95 159 ls st σ Q := (am_r_if (t := 198) d95_156 (by decide)).trans (am_ite _ _ trivial (by simp only [am_cond, decide_eq_true_eq]))
theorem r95_159  : am_Rn L xs d 95 159 ls st σ Q = am_la ls 0 (fun x => am_Rn L xs d 95 160 ls (x :: st) σ Q) := am_r_aload_n d95_159
theorem r95_160 {p : Nat} : am_Rn L xs d 95 160 ls (.ref p :: st) σ Q = am_fd σ p 6 2 (fun v => am_Rn L xs d 95 163 ls (v :: st) σ Q) := am_r_getfield d95_160 rfl
theorem r95_163  : am_Rn L xs d 95 163 ls st σ Q = am_Rn L xs d 95 165 ls (.int 12 :: st) σ Q := am_r_bipush d95_163 (by decide)
theorem r95_165  : am_Rn L xs d 95 165 ls st σ Q = am_la ls 0 (fun x => am_Rn L xs d 95 166 ls (x :: st) σ Q) := am_r_aload_n d95_165
theorem r95_166 {p : Nat} : am_Rn L xs d 95 166 ls (.ref p :: st) σ Q = am_fd σ p 6 16 (fun v => am_Rn L xs d 95 169 ls (v :: st) σ Q) := am_r_getfield d95_166 rfl
theorem r95_169 {a b : Int32} : am_Rn L xs d 95 169 ls (.int b :: .int a :: st) σ Q = am_Rn L xs d 95 170 ls (.int (a * b) :: st) σ Q := am_r_imul d95_169
theorem r95_170 {p : Nat} {i : Int32} : am_Rn L xs d 95 170 ls (.int i :: .ref p :: st) σ Q = am_ai 0 σ p i (fun x => am_Rn L xs d 95 171 ls (.int x :: st) σ Q) := am_r_iaload d95_170
theorem r95_171  : am_Rn L xs d 95 171 ls st σ Q = am_la ls 0 (fun x => am_Rn L xs d 95 172 ls (x :: st) σ Q) := am_r_aload_n d95_171
theorem r95_172 {p : Nat} : am_Rn L xs d 95 172 ls (.ref p :: st) σ Q = am_fd σ p 6 2 (fun v => am_Rn L xs d 95 175 ls (v :: st) σ Q) := am_r_getfield d95_172 rfl
theorem r95_175  : am_Rn L xs d 95 175 ls st σ Q = am_Rn L xs d 95 177 ls (.int 12 :: st) σ Q := am_r_bipush d95_175 (by decide)
theorem r95_177  : am_Rn L xs d 95 177 ls st σ Q = am_la ls 0 (fun x => am_Rn L xs d 95 178 ls (x :: st) σ Q) := am_r_aload_n d95_177
theorem r95_178 {p : Nat} : am_Rn L xs d 95 178 ls (.ref p :: st) σ Q = am_fd σ p 6 17 (fun v => am_Rn L xs d 95 181 ls (v :: st) σ Q) := am_r_getfield d95_178 rfl
theorem r95_181 {a b : Int32} : am_Rn L xs d 95 181 ls (.int b :: .int a :: st) σ Q = am_Rn L xs d 95 182 ls (.int (a * b) :: st) σ Q := am_r_imul d95_181
theorem r95_182 {p : Nat} {i : Int32} : am_Rn L xs d 95 182 ls (.int i :: .ref p :: st) σ Q = am_ai 0 σ p i (fun x => am_Rn L xs d 95 183 ls (.int x :: st) σ Q) := am_r_iaload d95_182
theorem r95_183 {a b : Int32} : am_Rn L xs d 95 183 ls (.int b :: .int a :: st) σ Q = if ¬ a = b then am_Rn L xs d 95 198 ls st σ Q else am_Rn L xs d 95 186 ls st σ Q := (am_r_icmp (t := 198) d95_183 (by decide)).trans (am_ite _ _ trivial (by simp only [am_cond, decide_eq_true_eq]))
theorem r95_186  : am_Rn L xs d 95 186 ls st σ Q = am_la ls 0 (fun x => am_Rn L xs d 95 187 ls (x :: st) σ Q) := am_r_aload_n d95_186
theorem r95_187  : am_Rn L xs d 95 187 ls st σ Q = am_Rn L xs d 95 188 ls (.int 0 :: st) σ Q := am_r_iconst d95_187 (by decide)
theorem r95_188  : am_Rn L xs d 95 188 ls st σ Q = am_Rn L xs d 95 189 ls (.int 0 :: st) σ Q := am_r_iconst d95_188 (by decide)
theorem r95_189 {a1 a2 : Value} {p : Nat} : am_Rn L xs (d + 1) 95 189 ls (a2 :: a1 :: .ref p :: st) σ Q = ((am_oc σ p = 6 ∧ st.length ≤ 4 ∧ am_ok a1 = true ∧ am_ok a2 = true) ∧ am_Call L xs d 101 [.ref p, a1, a2] σ (fun r σ1 => am_Rn L xs (d + 1) 95 192 ls (r.toList ++ st) σ1 Q)) := am_R_virtual2 d95_189 rfl ⟨by decide, rfl⟩ rfl rfl (by decide)
theorem r95_192  : am_Rn L xs d 95 192 ls st σ Q = am_la ls 0 (fun x => am_Rn L xs d 95 193 ls (x :: st) σ Q) := am_r_aload_n d95_192
theorem r95_193  : am_Rn L xs d 95 193 ls st σ Q = am_Rn L xs d 95 194 ls (.int 0 :: st) σ Q := am_r_iconst d95_193 (by decide)
theorem r95_194  : am_Rn L xs d 95 194 ls st σ Q = am_Rn L xs d 95 195 ls (.int 0 :: st) σ Q := am_r_iconst d95_194 (by decide)
theorem r95_195 {a1 a2 : Value} {p : Nat} : am_Rn L xs (d + 1) 95 195 ls (a2 :: a1 :: .ref p :: st) σ Q = ((am_oc σ p = 6 ∧ st.length ≤ 4 ∧ am_ok a1 = true ∧ am_ok a2 = true) ∧ am_Call L xs d 103 [.ref p, a1, a2] σ (fun r σ1 => am_Rn L xs (d + 1) 95 198 ls (r.toList ++ st) σ1 Q)) := am_R_virtual2 d95_195 rfl ⟨by decide, rfl⟩ rfl rfl (by decide)
theorem r95_198  : am_Rn L xs d 95 198 ls [] σ Q = Q none σ := am_r_return d95_198 rfl
theorem d96_0 : decode (pg_code 96) 0 = .ok (.iconst 0, 1) := by decide +kernel
theorem d96_1 : decode (pg_code 96) 1 = .ok (.istore_n 1, 1) := by decide +kernel
theorem d96_2 : decode (pg_code 96) 2 = .ok (.iload_n 1, 1) := by decide +kernel
theorem d96_3 : decode (pg_code 96) 3 = .ok (.bipush 12, 2) := by decide +kernel
theorem d96_5 : decode (pg_code 96) 5 = .ok (.if_icmp .ge 209, 3) := by decide +kernel
theorem d96_8 : decode (pg_code 96) 8 = .ok (.aload_n 0, 1) := by decide +kernel
theorem d96_9 : decode (pg_code 96) 9 = .ok (.getfield 38, 3) := by decide +kernel
theorem d96_12 : decode (pg_code 96) 12 = .ok (.iload_n 1, 1) := by decide +kernel
theorem d96_13 : decode (pg_code 96) 13 = .ok (.iconst 0, 1) := by decide +kernel
theorem d96_14 : decode (pg_code 96) 14 = .ok (.iastore, 1) := by decide +kernel
theorem d96_15 : decode (pg_code 96) 15 = .ok (.aload_n 0, 1) := by decide +kernel
theorem d96_16 : decode (pg_code 96) 16 = .ok (.getfield 41, 3) := by decide +kernel
theorem d96_19 : decode (pg_code 96) 19 = .ok (.iload_n 1, 1) := by decide +kernel
theorem d96_20 : decode (pg_code 96) 20 = .ok (.iconst 0, 1) := by decide +kernel
theorem d96_21 : decode (pg_code 96) 21 = .ok (.iastore, 1) := by decide +kernel
theorem d96_22 : decode (pg_code 96) 22 = .ok (.aload_n 0, 1) := by decide +kernel
theorem d96_23 : decode (pg_code 96) 23 = .ok (.getfield 44, 3) := by decide +kernel
theorem d96_26 : decode (pg_code 96) 26 = .ok (.iload_n 1, 1) := by decide +kernel
theorem d96_27 : decode (pg_code 96) 27 = .ok (.iload_n 1, 1) := by decide +kernel
theorem d96_28 : decode (pg_code 96) 28 = .ok (.aload_n 0, 1) := by decide +kernel
theorem d96_29 : decode (pg_code 96) 29 = .ok (.getfield 7, 3) := by decide +kernel
theorem d96_32 : decode (pg_code 96) 32 = .ok (.aload_n 0, 1) := by decide +kernel
theorem d96_33 : decode (pg_code 96) 33 = .ok (.getfield 129, 3) := by decide +kernel
theorem d96_36 : decode (pg_code 96) 36 = .ok (.iaload, 1) := by decide +kernel
theorem d96_37 : decode (pg_code 96) 37 = .ok (.if_icmp .ge 15, 3) := by decide +kernel
theorem d96_40 : decode (pg_code 96) 40 = .ok (.aload_n 0, 1) := by decide +kernel
theorem d96_41 : decode (pg_code 96) 41 = .ok (.aload_n 0, 1) := by decide +kernel
theorem d96_42 : decode (pg_code 96) 42 = .ok (.getfield 129, 3) := by decide +kernel
theorem d96_45 : decode (pg_code 96) 45 = .ok (.iload_n 1, 1) := by decide +kernel
theorem d96_46 : decode (pg_code 96) 46 = .ok (.invokevirtual 133, 3) := by decide +kernel
theorem d96_49 : decode (pg_code 96) 49 = .ok (.goto 4, 3) := by decide +kernel
theorem d96_52 : decode (pg_code 96) 52 = .ok (.iconst 0, 1) := by decide +kernel
theorem d96_53 : decode (pg_code 96) 53 = .ok (.iastore, 1) := by decide +kernel
theorem d96_54 : decode (pg_code 96) 54 = .ok (.iconst 0, 1) := by decide +kernel
theorem d96_55 : decode (pg_code 96) 55 = .ok (.istore_n 2, 1) := by decide +kernel
theorem d96_56 : decode (pg_code 96) 56 = .ok (.iload_n 2, 1) := by decide +kernel
theorem d96_57 : decode (pg_code 96) 57 = .ok (.bipush 12, 2) := by decide +kernel
theorem d96_59 : decode (pg_code 96) 59 = .ok (.if_icmp .ge 149, 3) := by decide +kernel
theorem d96_62 : decode (pg_code 96) 62 = .ok (.aload_n 0, 1) := by decide +kernel
theorem d96_63 : decode (pg_code 96) 63 = .ok (.getfield 32, 3) := by decide +kernel
theorem d96_66 : decode (pg_code 96) 66 = .ok (.bipush 12, 2) := by decide +kernel
theorem d96_68 : decode (pg_code 96) 68 = .ok (.iload_n 1, 1) := by decide +kernel
theorem d96_69 : decode (pg_code 96) 69 = .ok (.imul, 1) := by decide +kernel
theorem d96_70 : decode (pg_code 96) 70 = .ok (.iload_n 2, 1) := by decide +kernel
theorem d96_71 : decode (pg_code 96) 71 = .ok (.iadd, 1) := by decide +kernel
theorem d96_72 : decode (pg_code 96) 72 = .ok (.iload_n 2, 1) := by decide +kernel
theorem d96_73 : decode (pg_code 96) 73 = .ok (.aload_n 0, 1) := by decide +kernel
theorem d96_74 : decode (pg_code 96) 74 = .ok (.getfield 7, 3) := by decide +kernel
theorem d96_77 : decode (pg_code 96) 77 = .ok (.aload_n 0, 1) := by decide +kernel
theorem d96_78 : decode (pg_code 96) 78 = .ok (.getfield 129, 3) := by decide +kernel
theorem d96_81 : decode (pg_code 96) 81 = .ok (.iaload, 1) := by decide +kernel
theorem d96_82 : decode (pg_code 96) 82 = .ok (.if_icmp .ge 20, 3) := by decide +kernel
theorem d96_85 : decode (pg_code 96) 85 = .ok (.aload_n 0, 1) := by decide +kernel
theorem d96_86 : decode (pg_code 96) 86 = .ok (.aload_n 0, 1) := by decide +kernel
theorem d96_87 : decode (pg_code 96) 87 = .ok (.getfield 129, 3) := by decide +kernel
theorem d96_90 : decode (pg_code 96) 90 = .ok (.iload_n 2, 1) := by decide +kernel
theorem d96_91 : decode (pg_code 96) 91 = .ok (.iload_n 1, 1) := by decide +kernel
theorem d96_92 : decode (pg_code 96) 92 = .ok (.invokevirtual 137, 3) := by decide +kernel
theorem d96_95 : decode (pg_code 96) 95 = .ok (.ifCond .eq 7, 3) := by decide +kernel
theorem d96_98 : decode (pg_code 96) 98 = .ok (.iconst 1, 1) := by decide +kernel
theorem d96_99 : decode (pg_code 96) 99 = .ok (.goto 4, 3) := by decide +kernel
theorem d96_102 : decode (pg_code 96) 102 = .ok (.iconst 0, 1) := by decide +kernel
theorem d96_103 : decode (pg_code 96) 103 = .ok (.bastore, 1) := by decide +kernel
theorem d96_104 : decode (pg_code 96) 104 = .ok (.aload_n 0, 1) := by decide +kernel
theorem d96_105 : decode (pg_code 96) 105 = .ok (.getfield 35, 3) := by decide +kernel
theorem d96_108 : decode (pg_code 96) 108 = .ok (.bipush 12, 2) := by decide +kernel
theorem d96_110 : decode (pg_code 96) 110 = .ok (.iload_n 1, 1) := by decide +kernel
theorem d96_111 : decode (pg_code 96) 111 = .ok (.imul, 1) := by decide +kernel
theorem d96_112 : decode (pg_code 96) 112 = .ok (.iload_n 2, 1) := by decide +kernel
theorem d96_113 : decode (pg_code 96) 113 = .ok (.iadd, 1) := by decide +kernel
theorem d96_114 : decode (pg_code 96) 114 = .ok (.iload_n 2, 1) := by decide +kernel
theorem d96_115 : decode (pg_code 96) 115 = .ok (.aload_n 0, 1) := by decide +kernel
theorem d96_116 : decode (pg_code 96) 116 = .ok (.getfield 7, 3) := by decide +kernel
theorem d96_119 : decode (pg_code 96) 119 = .ok (.aload_n 0, 1) := by decide +kernel
theorem d96_120 : decode (pg_code 96) 120 = .ok (.getfield 141, 3) := by decide +kernel
theorem d96_123 : decode (pg_code 96) 123 = .ok (.iaload, 1) := by decide +kernel
theorem d96_124 : decode (pg_code 96) 124 = .ok (.if_icmp .ge 20, 3) := by decide +kernel
theorem d96_127 : decode (pg_code 96) 127 = .ok (.aload_n 0, 1) := by decide +kernel
theorem d96_128 : decode (pg_code 96) 128 = .ok (.aload_n 0, 1) := by decide +kernel
theorem d96_129 : decode (pg_code 96) 129 = .ok (.getfield 141, 3) := by decide +kernel
theorem d96_132 : decode (pg_code 96) 132 = .ok (.iload_n 2, 1) := by decide +kernel
theorem d96_133 : decode (pg_code 96) 133 = .ok (.iload_n 1, 1) := by decide +kernel
theorem d96_134 : decode (pg_code 96) 134 = .ok (.invokevirtual 137, 3) := by decide +kernel
theorem d96_137 : decode (pg_code 96) 137 = .ok (.ifCond .eq 7, 3) := by decide +kernel
theorem d96_140 : decode (pg_code 96) 140 = .ok (.iconst 1, 1) := by decide +kernel
theorem d96_141 : decode (pg_code 96) 141 = .ok (.goto 4, 3) := by decide +kernel
theorem d96_144 : decode (pg_code 96) 144 = .ok (.iconst 0, 1) := by decide +kernel
theorem d96_145 : decode (pg_code 96) 145 = .ok (.bastore, 1) := by decide +kernel
theorem d96_146 : decode (pg_code 96) 146 = .ok (.aload_n 0, 1) := by decide +kernel
theorem d96_147 : decode (pg_code 96) 147 = .ok (.getfield 38, 3) := by decide +kernel
theorem d96_150 : decode (pg_code 96) 150 = .ok (.iload_n 1, 1) := by decide +kernel
theorem d96_151 : decode (pg_code 96) 151 = .ok (.dup2, 1) := by decide +kernel
theorem d96_152 : decode (pg_code 96) 152 = .ok (.iaload, 1) := by decide +kernel
theorem d96_153 : decode (pg_code 96) 153 = .ok (.aload_n 0, 1) := by decide +kernel
theorem d96_154 : decode (pg_code 96) 154 = .ok (.getfield 32, 3) := by decide +kernel
theorem d96_157 : decode (pg_code 96) 157 = .ok (.bipush 12, 2) := by decide +kernel
theorem d96_159 : decode (pg_code 96) 159 = .ok (.iload_n 1, 1) := by decide +kernel
theorem d96_160 : decode (pg_code 96) 160 = .ok (.imul, 1) := by decide +kernel
theorem d96_161 : decode (pg_code 96) 161 = .ok (.iload_n 2, 1) := by decide +kernel
theorem d96_162 : decode (pg_code 96) 162 = .ok (.iadd, 1) := by decide +kernel
theorem d96_163 : decode (pg_code 96) 163 = .ok (.baload, 1) := by decide +kernel
theorem d96_164 : decode (pg_code 96) 164 = .ok (.ifCond .eq 7, 3) := by decide +kernel
theorem d96_167 : decode (pg_code 96) 167 = .ok (.iconst 1, 1) := by decide +kernel
theorem d96_168 : decode (pg_code 96) 168 = .ok (.goto 4, 3) := by decide +kernel
theorem d96_171 : decode (pg_code 96) 171 = .ok (.iconst 0, 1) := by decide +kernel
theorem d96_172 : decode (pg_code 96) 172 = .ok (.iadd, 1) := by decide +kernel
theorem d96_173 : decode (pg_code 96) 173 = .ok (.iastore, 1) := by decide +kernel
theorem d96_174 : decode (pg_code 96) 174 = .ok (.aload_n 0, 1) := by decide +kernel
theorem d96_175 : decode (pg_code 96) 175 = .ok (.getfield 41, 3) := by decide +kernel
theorem d96_178 : decode (pg_code 96) 178 = .ok (.iload_n 1, 1) := by decide +kernel
theorem d96_179 : decode (pg_code 96) 179 = .ok (.dup2, 1) := by decide +kernel
theorem d96_180 : decode (pg_code 96) 180 = .ok (.iaload, 1) := by decide +kernel
theorem d96_181 : decode (pg_code 96) 181 = .ok (.aload_n 0, 1) := by decide +kernel
theorem d96_182 : decode (pg_code 96) 182 = .ok (.getfield 35, 3) := by decide +kernel
theorem d96_185 : decode (pg_code 96) 185 = .ok (.bipush 12, 2) := by decide +kernel
theorem d96_187 : decode (pg_code 96) 187 = .ok (.iload_n 1, 1) := by decide +kernel
theorem d96_188 : decode (pg_code 96) 188 = .ok (.imul, 1) := by decide +kernel
theorem d96_189 : decode (pg_code 96) 189 = .ok (.iload_n 2, 1) := by decide +kernel
theorem d96_190 : decode (pg_code 96) 190 = .ok (.iadd, 1) := by decide +kernel
theorem d96_191 : decode (pg_code 96) 191 = .ok (.baload, 1) := by decide +kernel
theorem d96_192 : decode (pg_code 96) 192 = .ok (.ifCond .eq 7, 3) := by decide +kernel
theorem d96_195 : decode (pg_code 96) 195 = .ok (.iconst 1, 1) := by decide +kernel
theorem d96_196 : decode (pg_code 96) 196 = .ok (.goto 4, 3) := by decide +kernel
theorem d96_199 : decode (pg_code 96) 199 = .ok (.iconst 0, 1) := by decide +kernel
theorem d96_200 : decode (pg_code 96) 200 = .ok (.iadd, 1) := by decide +kernel
theorem d96_201 : decode (pg_code 96) 201 = .ok (.iastore, 1) := by decide +kernel
theorem d96_202 : decode (pg_code 96) 202 = .ok (.iinc 2 1, 3) := by decide +kernel
theorem d96_205 : decode (pg_code 96) 205 = .ok (.goto (-149), 3) := by decide +kernel
theorem d96_208 : decode (pg_code 96) 208 = .ok (.iinc 1 1, 3) := by decide +kernel
theorem d96_211 : decode (pg_code 96) 211 = .ok (.goto (-209), 3) := by decide +kernel
theorem d96_214 : decode (pg_code 96) 214 = .ok (.return_, 1) := by decide +kernel
theorem e96 {b1 : Value} : am_Call L xs d 96 [b1] σ Q = am_Rn L xs d 96 0 [b1, .retAddr 0, .retAddr 0] [] σ Q := rfl
theorem r96_0  : am_Rn L xs d 96 0 ls st σ Q = am_Rn L xs d 96 1 ls (.int 0 :: st) σ Q := am_r_iconst d96_0 (by decide)
theorem r96_1 {x : Int32} : am_Rn L xs d 96 1 ls (.int x :: st) σ Q = (1 < ls.length ∧ am_Rn L xs d 96 2 (ls.set 1 (.int x)) st σ Q) := am_r_istore_n d96_1
theorem r96_2  : am_Rn L xs d 96 2 ls st σ Q = am_li ls 1 (fun x => am_Rn L xs d 96 3 ls (.int x :: st) σ Q) := am_r_iload_n d96_2
theorem r96_3  : am_Rn L xs d 96 3 ls st σ Q = am_Rn L xs d 96 5 ls (.int 12 :: st) σ Q := am_r_bipush d96_3 (by decide)
theorem r96_5 {a b : Int32} : am_Rn L xs d 96 5 ls (.int b :: .int a :: st) σ Q = if b ≤ a then am_Rn L xs d 96 214 ls st σ Q else am_Rn L xs d 96 8 ls st σ Q := (am_r_icmp (t := 214) d96_5 (by decide)).trans (am_ite _ _ trivial (by simp only [am_cond, decide_eq_true_eq]))
theorem r96_8  : am_Rn L xs d 96 8 ls st σ Q = am_la ls 0 (fun x => am_Rn L xs d 96 9 ls (x :: st) σ Q) := am_r_aload_n d96_8
theorem r96_9 {p : Nat} : am_Rn L xs d 96 9 ls (.ref p :: st) σ Q = am_fd σ p 6 9 (fun v => am_Rn L xs d 96 12 ls (v :: st) σ Q) := am_r_getfield d96_9 rfl
theorem r96_12  : am_Rn L xs d 96 12 ls st σ Q = am_li ls 1 (fun x => am_Rn L xs d 96 13 ls (.int x :: st) σ Q) := am_r_iload_n d96_12
theorem r96_13  : am_Rn L xs d 96 13 ls st σ Q = am_Rn L xs d 96 14 ls (.int 0 :: st) σ Q := am_r_iconst d96_13 (by decide)
theorem r96_14 {p : Nat} {i x : Int32} : am_Rn L xs d 96 14 ls (.int x :: .int i :: .ref p :: st) σ Q = am_wi 0 σ p i x (fun σ1 => am_Rn L xs d 96 15 ls st σ1 Q) := am_r_iastore d96_14
theorem r96_15  : am_Rn L xs d 96 15 ls st σ Q = am_la ls 0 (fun x => am_Rn L xs d 96 16 ls (x :: st) σ Q) := am_r_aload_n d96_15
theorem r96_16 {p : Nat} : am_Rn L xs d 96 16 ls (.ref p :: st) σ Q = am_fd σ p 6 10 (fun v => am_Rn L xs d 96 19 ls (v :: st) σ Q) := am_r_getfield d96_16 rfl
theorem r96_19  : am_Rn L xs d 96 19 ls st σ Q = am_li ls 1 (fun x => am_Rn L xs d 96 20 ls (.int x :: st) σ Q) := am_r_iload_n d96_19
theorem r96_20  : am_Rn L xs d 96 20 ls st σ Q = am_Rn L xs d 96 21 ls (.int 0 :: st) σ Q := am_r_iconst d96_20 (by decide)
theorem r96_21 {p : Nat} {i x : Int32} : am_Rn L xs d 96 21 ls (.int x :: .int i :: .ref p :: st) σ Q = am_wi 0 σ p i x (fun σ1 => am_Rn L xs d 96 22 ls st σ1 Q) := am_r_iastore d96_21
theorem r96_22  : am_Rn L xs d 96 22 ls st σ Q = am_la ls 0 (fun x => am_Rn L xs d 96 23 ls (x :: st) σ Q) := am_r_aload_n d96_22
theorem r96_23 {p : Nat} : am_Rn L xs d 96 23 ls (.ref p :: st) σ Q = am_fd σ p 6 11 (fun v => am_Rn L xs d 96 26 ls (v :: st) σ Q) := am_r_getfield d96_23 rfl
theorem r96_26  : am_Rn L xs d 96 26 ls st σ Q = am_li ls 1 (fun x => am_Rn L xs d 96 27 ls (.int x :: st) σ Q) := am_r_iload_n d96_26
theorem r96_27  : am_Rn L xs d 96 27 ls st σ Q = am_li ls 1 (fun x => am_Rn L xs d 96 28 ls (.int x :: st) σ Q) := am_r_iload_n d96_27
theorem r96_28  : am_Rn L xs d 96 28 ls st σ Q = am_la ls 0 (fun x => am_Rn L xs d 96 29 ls (x :: st) σ Q) := am_r_aload_n d96_28
theorem r96_29 {p : Nat} : am_Rn L xs d 96 29 ls (.ref p :: st) σ Q = am_fd σ p 6 0 (fun v => am_Rn L xs d 96 32 ls (v :: st) σ Q) := am_r_getfield d96_29 rfl
theorem r96_32  : am_Rn L xs d 96 32 ls st σ Q = am_la ls 0 (fun x => am_Rn L xs d 96 33 ls (x :: st) σ Q) := am_r_aload_n d96_32
theorem r96_33 {p : Nat} : am_Rn L xs d 96 33 ls (.ref p :: st) σ Q = am_fd σ p 6 16 (fun v => am_Rn L xs d 96 36 ls (v :: st) σ Q) := am_r_getfield d96_33 rfl
theorem r96_36 {p : Nat} {i : Int32} : am_Rn L xs d 96 36 ls (.int i :: .ref p :: st) σ Q = am_ai 0 σ p i (fun x => am_Rn L xs d 96 37 ls (.int x :: st) σ Q) := am_r_iaload d96_36
theorem r96_37 {a b : Int32} : am_Rn L xs d 96 37 ls (.int b :: .int a :: st) σ Q = if b ≤ a then am_Rn L xs d 96 52 ls st σ Q else am_Rn L xs d 96 40 ls st σ Q := (am_r_icmp (t := 52) d96_37 (by decide)).trans (am_ite _ _ trivial (by simp only [am_cond, decide_eq_true_eq]))
theorem r96_40  : am_Rn L xs d 96 40 ls st σ Q = am_la ls 0 (fun x => am_Rn L xs d 96 41 ls (x :: st) σ Q) := am_r_aload_n d96_40
theorem r96_41  : am_Rn L xs d 96 41 ls st σ Q = am_la ls 0 (fun x => am_Rn L xs d 96 42 ls (x :: st) σ Q) := am_r_aload_n d96_41
theorem r96_42 {p : Nat} : am_Rn L xs d 96 42 ls (.ref p :: st) σ Q = am_fd σ p 6 16 (fun v => am_Rn L xs d 96 45 ls (v :: st) σ Q) := am_r_getfield d96_42 rfl
theorem r96_45  : am_Rn L xs d 96 45 ls st σ Q = am_li ls 1 (fun x => am_Rn L xs d 96 46 ls (.int x :: st) σ Q) := am_r_iload_n d96_45
theorem r96_46 {a1 a2 : Value} {p : Nat} : am_Rn L xs (d + 1) 96 46 ls (a2 :: a1 :: .ref p :: st) σ Q = ((am_oc σ p = 6 ∧ st.length ≤ 4 ∧ am_ok a1 = true ∧ am_ok a2 = true) ∧ am_Call L xs d 89 [.ref p, a1, a2] σ (fun r σ1 => am_Rn L xs (d + 1) 96 49 ls (r.toList ++ st) σ1 Q)) := am_R_virtual2 d96_46 rfl ⟨by decide, rfl⟩ rfl rfl (by decide)
theorem r96_49  : am_Rn L xs d 96 49 ls st σ Q = am_Rn L xs d 96 53 ls st σ Q := am_r_goto d96_49 (by decide)
theorem r96_52  : am_Rn L xs d 96 52 ls st σ Q = am_Rn L xs d 96 53 ls (.int 0 :: st) σ Q := am_r_iconst d96_52 (by decide)
theorem r96_53 {p : Nat} {i x : Int32} : am_Rn L xs d 96 53 ls (.int x :: .int i :: .ref p :: st) σ Q = am_wi 0 σ p i x (fun σ1 => am_Rn L xs d 96 54 ls st σ1 Q) := am_r_iastore d96_53
theorem r96_54  : am_Rn L xs d 96 54 ls st σ Q = am_Rn L xs d 96 55 ls (.int 0 :: st) σ Q := am_r_iconst d96_54 (by decide)
theorem r96_55 {x : Int32} : am_Rn L xs d 96 55 ls (.int x :: st) σ Q = (2 < ls.length ∧ am_Rn L xs d 96 56 (ls.set 2 (.int x)) st σ Q) := am_r_istore_n d96_55
theorem r96_56  : am_Rn L xs d 96 56 ls st σ Q = am_li ls 2 (fun x => am_Rn L xs d 96 57 ls (.int x :: st) σ Q) := am_r_iload_n d96_56
theorem r96_57  : am_Rn L xs d 96 57 ls st σ Q = am_Rn L xs d 96 59 ls (.int 12 :: st) σ Q := am_r_bipush d96_57 (by decide)
theorem r96_59 {a b : Int32} : am_Rn L xs d 96 59 ls (.int b :: .int a :: st) σ Q = if b ≤ a then am_Rn L xs d 96 208 ls st σ Q else am_Rn L xs d 96 62 ls st σ Q := (am_r_icmp (t := 208) d96_59 (by decide)).trans (am_ite _ _ trivial (by simp only [am_cond, decide_eq_true_eq]))
theorem r96_62  : am_Rn L xs d 96 62 ls st σ Q = am_la ls 0 (fun x => am_Rn L xs d 96 63 ls (x :: st) σ Q) := am_r_aload_n d96_62
theorem r96_63 {p : Nat} : am_Rn L xs d 96 63 ls (.ref p :: st) σ Q = am_fd σ p 6 7 (fun v => am_Rn L xs d 96 66 ls (v :: st) σ Q) := am_r_getfield d96_63 rfl
theorem r96_66  : am_Rn L xs d 96 66 ls st σ Q = am_Rn L xs d 96 68 ls (.int 12 :: st) σ Q := am_r_bipush d96_66 (by decide)
theorem r96_68  : am_Rn L xs d 96 68 ls st σ Q = am_li ls 1 (fun x => am_Rn L xs d 96 69 ls (.int x :: st) σ Q) := am_r_iload_n d96_68
theorem r96_69 {a b : Int32} : am_Rn L xs d 96 69 ls (.int b :: .int a :: st) σ Q = am_Rn L xs d 96 70 ls (.int (a * b) :: st) σ Q := am_r_imul d96_69
theorem r96_70  : am_Rn L xs d 96 70 ls st σ Q = am_li ls 2 (fun x => am_Rn L xs d 96 71 ls (.int x :: st) σ Q) := am_r_iload_n d96_70
theorem r96_71 {a b : Int32} : am_Rn L xs d 96 71 ls (.int b :: .int a :: st) σ Q = am_Rn L xs d 96 72 ls (.int (a + b) :: st) σ Q := am_r_iadd d96_71
theorem r96_72  : am_Rn L xs d 96 72 ls st σ Q = am_li ls 2 (fun x => am_Rn L xs d 96 73 ls (.int x :: st) σ Q) := am_r_iload_n d96_72
theorem r96_73  : am_Rn L xs d 96 73 ls st σ Q = am_la ls 0 (fun x => am_Rn L xs d 96 74 ls (x :: st) σ Q) := am_r_aload_n d96_73
theorem r96_74 {p : Nat} : am_Rn L xs d 96 74 ls (.ref p :: st) σ Q = am_fd σ p 6 0 (fun v => am_Rn L xs d 96 77 ls (v :: st) σ Q) := am_r_getfield d96_74 rfl
theorem r96_77  : am_Rn L xs d 96 77 ls st σ Q = am_la ls 0 (fun x => am_Rn L xs d 96 78 ls (x :: st) σ Q) := am_r_aload_n d96_77
theorem r96_78 {p : Nat} : am_Rn L xs d 96 78 ls (.ref p :: st) σ Q = am_fd σ p 6 16 (fun v => am_Rn L xs d 96 81 ls (v :: st) σ Q) := am_r_getfield d96_78 rfl
theorem r96_81 {p : Nat} {i : Int32} : am_Rn L xs d 96 81 ls (.int i :: .ref p :: st) σ Q = am_ai 0 σ p i (fun x => am_Rn L xs d 96 82 ls (.int x :: st) σ Q) := am_r_iaload d96_81
theorem r96_82 {a b : Int32} : am_Rn L xs d 96 82 ls (.int b :: .int a :: st) σ Q = if b ≤ a then am_Rn L xs d 96 102 ls st σ Q else am_Rn L xs d 96 85 ls st σ Q := (am_r_icmp (t := 102) d96_82 (by decide)).trans (am_ite _ _ trivial (by simp only [am_cond, decide_eq_true_eq]))
theorem r96_85  : am_Rn L xs d 96 85 ls st σ Q = am_la ls 0 (fun x => am_Rn L xs d 96 86 ls (x :: st) σ Q) := am_r_aload_n d96_85
theorem r96_86  : am_Rn L xs d 96 86 ls st σ Q = am_la ls 0 (fun x => am_Rn L xs d 96 87 ls (x :: st) σ Q) := am_r_aload_n d96_86
theorem r96_87 {p : Nat} : am_Rn L xs d 96 87 ls (.ref p :: st) σ Q = am_fd σ p 6 16 (fun v => am_Rn L xs d 96 90 ls (v :: st) σ Q) := am_r_getfield d96_87 rfl
theorem r96_90  : am_Rn L xs d 96 90 ls st σ Q = am_li ls 2 (fun x => am_Rn L xs d 96 91 ls (.int x :: st) σ Q) := am_r_iload_n d96_90
theorem r96_91  : am_Rn L xs d 96 91 ls st σ Q = am_li ls 1 (fun x => am_Rn L xs d 96 92 ls (.int x :: st) σ Q) := am_r_iload_n d96_91
theorem r96_92 {a1 a2 a3 : Value} {p : Nat} : am_Rn L xs (d + 1) 96 92 ls (a3 :: a2 :: a1 :: .ref p :: st) σ Q = ((am_oc σ p = 6 ∧ st.length ≤ 4 ∧ am_ok a1 = true ∧ am_ok a2 = true ∧ am_ok a3 = true) ∧ am_Call L xs d 97 [.ref p, a1, a2, a3] σ (fun r σ1 => am_Rn L xs (d + 1) 96 95 ls (r.toList ++ st) σ1 Q)) := am_R_virtual3 d96_92 rfl ⟨by decide, rfl⟩ rfl rfl (by decide)
theorem r96_95 {a : Int32} : am_Rn L xs d 96 95 ls (.int a :: st) σ Q = if a = 0 then am_Rn L xs d 96 102 ls st σ Q else am_Rn L xs d 96 98 ls st σ Q := (am_r_if (t := 102) d96_95 (by decide)).trans (am_ite _ _ trivial (by simp only [am_cond, decide_eq_true_eq]))
theorem r96_98  : am_Rn L xs d 96 98 ls st σ Q = am_Rn L xs d 96 99 ls (.int 1 :: st) σ Q := am_r_iconst d96_98 (by decide)
theorem r96_99  : am_Rn L xs d 96 99 ls st σ Q = am_Rn L xs d 96 103 ls st σ Q := am_r_goto d96_99 (by decide)
theorem r96_102  : am_Rn L xs d 96 102 ls st σ Q = am_Rn L xs d 96 103 ls (.int 0 :: st) σ Q := am_r_iconst d96_102 (by decide)
theorem r96_103 {p : Nat} {i x : Int32} : am_Rn L xs d 96 103 ls (.int x :: .int i :: .ref p :: st) σ Q = am_wi 1 σ p i (vp_nar .boolean x) (fun σ1 => am_Rn L xs d 96 104 ls st σ1 Q) := am_r_bastore d96_103
theorem r96_104  : am_Rn L xs d 96 104 ls st σ Q = am_la ls 0 (fun x => am_Rn L xs d 96 105 ls (x :: st) σ Q) := am_r_aload_n d96_104
theorem r96_105 {p : Nat} : am_Rn L xs d 96 105 ls (.ref p :: st) σ Q = am_fd σ p 6 8 (fun v => am_Rn L xs d 96 108 ls (v :: st) σ Q) := am_r_getfield d96_105 rfl
theorem r96_108  : am_Rn L xs d 96 108 ls st σ Q = am_Rn L xs d 96 110 ls (.int 12 :: st) σ Q := am_r_bipush d96_108 (by decide)
theorem r96_110  : am_Rn L xs d 96 110 ls st σ Q = am_li ls 1 (fun x => am_Rn L xs d 96 111 ls (.int x :: st) σ Q) := am_r_iload_n d96_110
theorem r96_111 {a b : Int32} : am_Rn L xs d 96 111 ls (.int b :: .int a :: st) σ Q = am_Rn L xs d 96 112 ls (.int (a * b) :: st) σ Q := am_r_imul d96_111
theorem r96_112  : am_Rn L xs d 96 112 ls st σ Q = am_li ls 2 (fun x => am_Rn L xs d 96 113 ls (.int x :: st) σ Q) := am_r_iload_n d96_112
theorem r96_113 {a b : Int32} : am_Rn L xs d 96 113 ls (.int b :: .int a :: st) σ Q = am_Rn L xs d 96 114 ls (.int (a + b) :: st) σ Q := am_r_iadd d96_113
theorem r96_114  : am_Rn L xs d 96 114 ls st σ Q = am_li ls 2 (fun x => am_Rn L xs d 96 115 ls (.int x :: st) σ Q) := am_r_iload_n d96_114
theorem r96_115  : am_Rn L xs d 96 115 ls st σ Q = am_la ls 0 (fun x => am_Rn L xs d 96 116 ls (x :: st) σ Q) := am_r_aload_n d96_115
theorem r96_116 {p : Nat} : am_Rn L xs d 96 116 ls (.ref p :: st) σ Q = am_fd σ p 6 0 (fun v => am_Rn L xs d 96 119 ls (v :: st) σ Q) := am_r_getfield d96_116 rfl
theorem r96_119  : am_Rn L xs d 96 119 ls st σ Q = am_la ls 0 (fun x => am_Rn L xs d 96 120 ls (x :: st) σ Q) := am_r_aload_n d96_119
theorem r96_120 {p : Nat} : am_Rn L xs d 96 120 ls (.ref p :: st) σ Q = am_fd σ p 6 17 (fun v => am_Rn L xs d 96 123 ls (v :: st) σ Q) := am_r_getfield d96_120 rfl
theorem r96_123 {p : Nat} {i : Int32} : am_Rn L xs d 96 123 ls (.int i :: .ref p :: st) σ Q = am_ai 0 σ p i (fun x => am_Rn L xs d 96 124 ls (.int x :: st) σ Q) := am_r_iaload d96_123
theorem r96_124 {a b : Int32} : am_Rn L xs d 96 124 ls (.int b :: .int a :: st) σ Q = if b ≤ a then am_Rn L xs d 96 144 ls st σ Q else am_Rn L xs d 96 127 ls st σ Q := (am_r_icmp (t := 144) d96_124 (by decide)).trans (am_ite _ _ trivial (by simp only [am_cond, decide_eq_true_eq]))
theorem r96_127  : am_Rn L xs d 96 127 ls st σ Q = am_la ls 0 (fun x => am_Rn L xs d 96 128 ls (x :: st) σ Q) := am_r_aload_n d96_127
theorem r96_128  : am_Rn L xs d 96 128 ls st σ Q = am_la ls 0 (fun x => am_Rn L xs d 96 129 ls (x :: st) σ Q) := am_r_aload_n d96_128
theorem r96_129 {p : Nat} : am_Rn L xs d 96 129 ls (.ref p :: st) σ Q = am_fd σ p 6 17 (fun v => am_Rn L xs d 96 132 ls (v :: st) σ Q) := am_r_getfield d96_129 rfl
theorem r96_132  : am_Rn L xs d 96 132 ls st σ Q = am_li ls 2 (fun x => am_Rn L xs d 96 133 ls (.int x :: st) σ Q) := am_r_iload_n d96_132
theorem r96_133  : am_Rn L xs d 96 133 ls st σ Q = am_li ls 1 (fun x => am_Rn L xs d 96 134 ls (.int x :: st) σ Q) := am_r_iload_n d96_133
theorem r96_134 {a1 a2 a3 : Value} {p : Nat} : am_Rn L xs (d + 1) 96 134 ls (a3 :: a2 :: a1 :: .ref p :: st) σ Q = ((am_oc σ p = 6 ∧ st.length ≤ 4 ∧ am_ok a1 = true ∧ am_ok a2 = true ∧ am_ok a3 = true) ∧ am_Call L xs d 97 [.ref p, a1, a2, a3] σ (fun r σ1 => am_Rn L xs (d + 1) 96 137 ls (r.toList ++ st) σ1 Q)) := am_R_virtual3 d96_134 rfl ⟨by decide, rfl⟩ rfl rfl (by decide)
theorem r96_137 {a : Int32} : am_Rn L xs d 96 137 ls (.int a :: st) σ Q = if a = 0 then am_Rn L xs d 96 144 ls st σ Q else am_Rn L xs d 96 140 ls st σ Q := (am_r_if (t := 144) d96_137 (by decide)).trans (am_ite _ _ trivial (by simp only [am_cond, decide_eq_true_eq]))
theorem r96_140  : am_Rn L xs d 96 140 ls st σ Q = am_Rn L xs d 96 141 ls (.int 1 :: st) σ Q := am_r_iconst d96_140 (by decide)
theorem r96_141  : am_Rn L xs d 96 141 ls st σ Q = am_Rn L xs d 96 145 ls st σ Q := am_r_goto d96_141 (by decide)
theorem r96_144  : am_Rn L xs d 96 144 ls st σ Q = am_Rn L xs d 96 145 ls (.int 0 :: st) σ Q := am_r_iconst d96_144 (by decide)
theorem r96_145 {p : Nat} {i x : Int32} : am_Rn L xs d 96 145 ls (.int x :: .int i :: .ref p :: st) σ Q = am_wi 1 σ p i (vp_nar .boolean x) (fun σ1 => am_Rn L xs d 96 146 ls st σ1 Q) := am_r_bastore d96_145
theorem r96_146  : am_Rn L xs d 96 146 ls st σ Q = am_la ls 0 (fun x => am_Rn L xs d 96 147 ls (x :: st) σ Q) := am_r_aload_n d96_146
theorem r96_147 {p : Nat} : am_Rn L xs d 96 147 ls (.ref p :: st) σ Q = am_fd σ p 6 9 (fun v => am_Rn L xs d 96 150 ls (v :: st) σ Q) := am_r_getfield d96_147 rfl
theorem r96_150  : am_Rn L xs d 96 150 ls st σ Q = am_li ls 1 (fun x => am_Rn L xs d 96 151 ls (.int x :: st) σ Q) := am_r_iload_n d96_150
theorem r96_151 {a b : Value} : am_Rn L xs d 96 151 ls (a :: b :: st) σ Q = ((am_ok a && am_ok b) = true ∧ am_Rn L xs d 96 152 ls (a :: b :: a :: b :: st) σ Q) := am_r_dup2 d96_151
theorem r96_152 {p : Nat} {i : Int32} : am_Rn L xs d 96 152 ls (.int i :: .ref p :: st) σ Q = am_ai 0 σ p i (fun x => am_Rn L xs d 96 153 ls (.int x :: st) σ Q) := am_r_iaload d96_152
theorem r96_153  : am_Rn L xs d 96 153 ls st σ Q = am_la ls 0 (fun x => am_Rn L xs d 96 154 ls (x :: st) σ Q) := am_r_aload_n d96_153
theorem r96_154 {p : Nat} : am_Rn L xs d 96 154 ls (.ref p :: st) σ Q = am_fd σ p 6 7 (fun v => am_Rn L xs d 96 157 ls (v :: st) σ Q) := am_r_getfield d96_154 rfl
theorem r96_157  : am_Rn L xs d 96 157 ls st σ Q = am_Rn L xs d 96 159 ls (.int 12 :: st) σ Q := am_r_bipush d96_157 (by decide)
theorem r96_159  : am_Rn L xs d 96 159 ls st σ Q = am_li ls 1 (fun x => am_Rn L xs d 96 160 ls (.int x :: st) σ Q) := am_r_iload_n d96_159
theorem r96_160 {a b : Int32} : am_Rn L xs d 96 160 ls (.int b :: .int a :: st) σ Q = am_Rn L xs d 96 161 ls (.int (a * b) :: st) σ Q := am_r_imul d96_160
theorem r96_161  : am_Rn L xs d 96 161 ls st σ Q = am_li ls 2 (fun x => am_Rn L xs d 96 162 ls (.int x :: st) σ Q) := am_r_iload_n d96_161
theorem r96_162 {a b : Int32} : am_Rn L xs d 96 162 ls (.int b :: .int a :: st) σ Q = am_Rn L xs d 96 163 ls (.int (a + b) :: st) σ Q := am_r_iadd d96_162
theorem r96_163 {p : Nat} {i : Int32} : am_Rn L xs d 96 163 ls (.int i :: .ref p :: st) σ Q = am_ai 1 σ p i (fun x => am_Rn L xs d 96 164 ls (.int x :: st) σ Q) := am_r_baload d96_163
theorem r96_164 {a : Int32} : am_Rn L xs d 96 164 ls (.int a :: st) σ Q = if a = 0 then am_Rn L xs d 96 171 ls st σ Q else am_Rn L xs d 96 167 ls st σ Q := (am_r_if (t := 171) d96_164 (by decide)).trans (am_ite _ _ trivial (by simp only [am_cond, decide_eq_true_eq]))
theorem r96_167  : am_Rn L xs d 96 167 ls st σ Q = am_Rn L xs d 96 168 ls (.int 1 :: st) σ Q := am_r_iconst d96_167 (by decide)
theorem r96_168  : am_Rn L xs d 96 168 ls st σ Q = am_Rn L xs d 96 172 ls st σ Q := am_r_goto d96_168 (by decide)
theorem r96_171  : am_Rn L xs d 96 171 ls st σ Q = am_Rn L xs d 96 172 ls (.int 0 :: st) σ Q := am_r_iconst d96_171 (by decide)
theorem r96_172 {a b : Int32} : am_Rn L xs d 96 172 ls (.int b :: .int a :: st) σ Q = am_Rn L xs d 96 173 ls (.int (a + b) :: st) σ Q := am_r_iadd d96_172
theorem r96_173 {p : Nat} {i x : Int32} : am_Rn L xs d 96 173 ls (.int x :: .int i :: .ref p :: st) σ Q = am_wi 0 σ p i x (fun σ1 => am_Rn L xs d 96 174 ls st σ1 Q) := am_r_iastore d96_173
theorem r96_174  : am_Rn L xs d 96 174 ls st σ Q = am_la ls 0 (fun x => am_Rn L xs d 96 175 ls (x :: st) σ Q) := am_r_aload_n d96_174
theorem r96_175 {p : Nat} : am_Rn L xs d 96 175 ls (.ref p :: st) σ Q = am_fd σ p 6 10 (fun v => am_Rn L xs d 96 178 ls (v :: st) σ Q) := am_r_getfield d96_175 rfl
theorem r96_178  : am_Rn L xs d 96 178 ls st σ Q = am_li ls 1 (fun x => am_Rn L xs d 96 179 ls (.int x :: st) σ Q) := am_r_iload_n d96_178
theorem r96_179 {a b : Value} : am_Rn L xs d 96 179 ls (a :: b :: st) σ Q = ((am_ok a && am_ok b) = true ∧ am_Rn L xs d 96 180 ls (a :: b :: a :: b :: st) σ Q) := am_r_dup2 d96_179
theorem r96_180 {p : Nat} {i : Int32} : am_Rn L xs d 96 180 ls (.int i :: .ref p :: st) σ Q = am_ai 0 σ p i (fun x => am_Rn L xs d 96 181 ls (.int x :: st) σ Q) := am_r_iaload d96_180
theorem r96_181  : am_Rn L xs d 96 181 ls st σ Q = am_la ls 0 (fun x => am_Rn L xs d 96 182 ls (x :: st) σ Q) := am_r_aload_n d96_181
theorem r96_182 {p : Nat} : am_Rn L xs d 96 182 ls (.ref p :: st) σ Q = am_fd σ p 6 8 (fun v => am_Rn L xs d 96 185 ls (v :: st) σ Q) := am_r_getfield d96_182 rfl
theorem r96_185  : am_Rn L xs d 96 185 ls st σ Q = am_Rn L xs d 96 187 ls (.int 12 :: st) σ Q := am_r_bipush d96_185 (by decide)
theorem r96_187  : am_Rn L xs d 96 187 ls st σ Q = am_li ls 1 (fun x => am_Rn L xs d 96 188 ls (.int x :: st) σ Q) := am_r_iload_n d96_187
theorem r96_188 {a b : Int32} : am_Rn L xs d 96 188 ls (.int b :: .int a :: st) σ Q = am_Rn L xs d 96 189 ls (.int (a * b) :: st) σ Q := am_r_imul d96_188
theorem r96_189  : am_Rn L xs d 96 189 ls st σ Q = am_li ls 2 (fun x => am_Rn L xs d 96 190 ls (.int x :: st) σ Q) := am_r_iload_n d96_189
theorem r96_190 {a b : Int32} : am_Rn L xs d 96 190 ls (.int b :: .int a :: st) σ Q = am_Rn L xs d 96 191 ls (.int (a + b) :: st) σ Q := am_r_iadd d96_190
theorem r96_191 {p : Nat} {i : Int32} : am_Rn L xs d 96 191 ls (.int i :: .ref p :: st) σ Q = am_ai 1 σ p i (fun x => am_Rn L xs d 96 192 ls (.int x :: st) σ Q) := am_r_baload d96_191
theorem r96_192 {a : Int32} : am_Rn L xs d 96 192 ls (.int a :: st) σ Q = if a = 0 then am_Rn L xs d 96 199 ls st σ Q else am_Rn L xs d 96 195 ls st σ Q := (am_r_if (t := 199) d96_192 (by decide)).trans (am_ite _ _ trivial (by simp only [am_cond, decide_eq_true_eq]))
theorem r96_195  : am_Rn L xs d 96 195 ls st σ Q = am_Rn L xs d 96 196 ls (.int 1 :: st) σ Q := am_r_iconst d96_195 (by decide)
theorem r96_196  : am_Rn L xs d 96 196 ls st σ Q = am_Rn L xs d 96 200 ls st σ Q := am_r_goto d96_196 (by decide)
theorem r96_199  : am_Rn L xs d 96 199 ls st σ Q = am_Rn L xs d 96 200 ls (.int 0 :: st) σ Q := am_r_iconst d96_199 (by decide)
theorem r96_200 {a b : Int32} : am_Rn L xs d 96 200 ls (.int b :: .int a :: st) σ Q = am_Rn L xs d 96 201 ls (.int (a + b) :: st) σ Q := am_r_iadd d96_200
theorem r96_201 {p : Nat} {i x : Int32} : am_Rn L xs d 96 201 ls (.int x :: .int i :: .ref p :: st) σ Q = am_wi 0 σ p i x (fun σ1 => am_Rn L xs d 96 202 ls st σ1 Q) := am_r_iastore d96_201
theorem r96_202  : am_Rn L xs d 96 202 ls st σ Q = am_li ls 2 (fun x => am_Rn L xs d 96 205 (ls.set 2 (.int (x + 1))) st σ Q) := am_r_iinc d96_202 (by decide)
theorem r96_205  : am_Rn L xs d 96 205 ls st σ Q = am_Rn L xs d 96 56 ls st σ Q := am_r_goto d96_205 (by decide)
theorem r96_208  : am_Rn L xs d 96 208 ls st σ Q = am_li ls 1 (fun x => am_Rn L xs d 96 211 (ls.set 1 (.int (x + 1))) st σ Q) := am_r_iinc d96_208 (by decide)
theorem r96_211  : am_Rn L xs d 96 211 ls st σ Q = am_Rn L xs d 96 2 ls st σ Q := am_r_goto d96_211 (by decide)
theorem r96_214  : am_Rn L xs d 96 214 ls [] σ Q = Q none σ := am_r_return d96_214 rfl
end
