/-! Rows of the program's instructions, written by program (wip/gen/gen_rows.py) -/
section
variable {L : Nat} {xs : Nat → Int32} {d : Nat} {ls st : List Value} {σ : am_S} {Q : Option Value → am_S → Prop}
theorem d97_0 : decode (pg_code 97) 0 = .ok (.iload_n 2, 1) := by decide +kernel
theorem d97_1 : decode (pg_code 97) 1 = .ok (.istore 4, 2) := by decide +kernel
theorem d97_3 : decode (pg_code 97) 3 = .ok (.iload 4, 2) := by decide +kernel
theorem d97_5 : decode (pg_code 97) 5 = .ok (.iload_n 3, 1) := by decide +kernel
theorem d97_6 : decode (pg_code 97) 6 = .ok (.if_icmp .le 20, 3) := by decide +kernel
theorem d97_9 : decode (pg_code 97) 9 = .ok (.aload_n 0, 1) := by decide +kernel
theorem d97_10 : decode (pg_code 97) 10 = .ok (.getfield 13, 3) := by decide +kernel
theorem d97_13 : decode (pg_code 97) 13 = .ok (.bipush 12, 2) := by decide +kernel
theorem d97_15 : decode (pg_code 97) 15 = .ok (.iload_n 1, 1) := by decide +kernel
theorem d97_16 : decode (pg_code 97) 16 = .ok (.imul, 1) := by decide +kernel
theorem d97_17 : decode (pg_code 97) 17 = .ok (.iload 4, 2) := by decide +kernel
theorem d97_19 : decode (pg_code 97) 19 = .ok (.iadd, 1) := by decide +kernel
theorem d97_20 : decode (pg_code 97) 20 = .ok (.iaload, 1) := by decide +kernel
theorem d97_21 : decode (pg_code 97) 21 = .ok (.istore 4, 2) := by decide +kernel
theorem d97_23 : decode (pg_code 97) 23 = .ok (.goto (-20), 3) := by decide +kernel
theorem d97_26 : decode (pg_code 97) 26 = .ok (.iload 4, 2) := by decide +kernel
theorem d97_28 : decode (pg_code 97) 28 = .ok (.iload_n 3, 1) := by decide +kernel
theorem d97_29 : decode (pg_code 97) 29 = .ok (.if_icmp .ne 12, 3) := by decide +kernel
theorem d97_32 : decode (pg_code 97) 32 = .ok (.iload_n 2, 1) := by decide +kernel
theorem d97_33 : decode (pg_code 97) 33 = .ok (.iload_n 3, 1) := by decide +kernel
theorem d97_34 : decode (pg_code 97) 34 = .ok (.if_icmp .eq 7, 3) := by decide +kernel
theorem d97_37 : decode (pg_code 97) 37 = .ok (.iconst 1, 1) := by decide +kernel
theorem d97_38 : decode (pg_code 97) 38 = .ok (.goto 4, 3) := by decide +kernel
theorem d97_41 : decode (pg_code 97) 41 = .ok (.iconst 0, 1) := by decide +kernel
theorem d97_42 : decode (pg_code 97) 42 = .ok (.ireturn, 1) := by decide +kernel
theorem e97 {b1 b2 b3 b4 : Value} : am_Call L xs d 97 [b1, b2, b3, b4] σ Q = am_Rn L xs d 97 0 [b1, b2, b3, b4, .retAddr 0] [] σ Q := rfl
theorem r97_0  : am_Rn L xs d 97 0 ls st σ Q = am_li ls 2 (fun x => am_Rn L xs d 97 1 ls (.int x :: st) σ Q) := am_r_iload_n d97_0
theorem r97_1 {x : Int32} : am_Rn L xs d 97 1 ls (.int x :: st) σ Q = (4 < ls.length ∧ am_Rn L xs d 97 3 (ls.set 4 (.int x)) st σ Q) := am_r_istore d97_1
theorem r97_3  : am_Rn L xs d 97 3 ls st σ Q = am_li ls 4 (fun x => am_Rn L xs d 97 5 ls (.int x :: st) σ Q) := am_r_iload d97_3
theorem r97_5  : am_Rn L xs d 97 5 ls st σ Q = am_li ls 3 (fun x => am_Rn L xs d 97 6 ls (.int x :: st) σ Q) := am_r_iload_n d97_5
theorem r97_6 {a b : Int32} : am_Rn L xs d 97 6 ls (.int b :: .int a :: st) σ Q = if a ≤ b then am_Rn L xs d 97 26 ls st σ Q else am_Rn L xs d 97 9 ls st σ Q := (am_r_icmp (t := 26) d97_6 (by decide)).trans (am_ite _ _ trivial (by simp only [am_cond, decide_eq_true_eq]))
theorem r97_9  : am_Rn L xs d 97 9 ls st σ Q = am_la ls 0 (fun x => am_Rn L xs d 97 10 ls (x :: st) σ Q) := am_r_aload_n d97_9
theorem r97_10 {p : Nat} : am_Rn L xs d 97 10 ls (.ref p :: st) σ Q = am_fd σ p 6 1 (fun v => am_Rn L xs d 97 13 ls (v :: st) σ Q) := am_r_getfield d97_10 rfl
theorem r97_13  : am_Rn L xs d 97 13 ls st σ Q = am_Rn L xs d 97 15 ls (.int 12 :: st) σ Q := am_r_bipush d97_13 (by decide)
theorem r97_15  : am_Rn L xs d 97 15 ls st σ Q = am_li ls 1 (fun x => am_Rn L xs d 97 16 ls (.int x :: st) σ Q) := am_r_iload_n d97_15
theorem r97_16 {a b : Int32} : am_Rn L xs d 97 16 ls (.int b :: .int a :: st) σ Q = am_Rn L xs d 97 17 ls (.int (a * b) :: st) σ Q := am_r_imul d97_16
theorem r97_17  : am_Rn L xs d 97 17 ls st σ Q = am_li ls 4 (fun x => am_Rn L xs d 97 19 ls (.int x :: st) σ Q) := am_r_iload d97_17
theorem r97_19 {a b : Int32} : am_Rn L xs d 97 19 ls (.int b :: .int a :: st) σ Q = am_Rn L xs d 97 20 ls (.int (a + b) :: st) σ Q := am_r_iadd d97_19
theorem r97_20 {p : Nat} {i : Int32} : am_Rn L xs d 97 20 ls (.int i :: .ref p :: st) σ Q = am_ai 0 σ p i (fun x => am_Rn L xs d 97 21 ls (.int x :: st) σ Q) := am_r_iaload d97_20
theorem r97_21 {x : Int32} : am_Rn L xs d 97 21 ls (.int x :: st) σ Q = (4 < ls.length ∧ am_Rn L xs d 97 23 (ls.set 4 (.int x)) st σ Q) := am_r_istore d97_21
theorem r97_23  : am_Rn L xs d 97 23 ls st σ Q = am_Rn L xs d 97 3 ls st σ Q := am_r_goto d97_23 (by decide)
theorem r97_26  : am_Rn L xs d 97 26 ls st σ Q = am_li ls 4 (fun x => am_Rn L xs d 97 28 ls (.int x :: st) σ Q) := am_r_iload d97_26
theorem r97_28  : am_Rn L xs d 97 28 ls st σ Q = am_li ls 3 (fun x => am_Rn L xs d 97 29 ls (.int x :: st) σ Q) := am_r_iload_n d97_28
theorem r97_29 {a b : Int32} : am_Rn L xs d 97 29 ls (.int b :: .int a :: st) σ Q = if ¬ a = b then am_Rn L xs d 97 41 ls st σ Q else am_Rn L xs d 97 32 ls st σ Q := (am_r_icmp (t := 41) d97_29 (by decide)).trans (am_ite _ _ trivial (by simp only [am_cond, decide_eq_true_eq]))
theorem r97_32  : am_Rn L xs d 97 32 ls st σ Q = am_li ls 2 (fun x => am_Rn L xs d 97 33 ls (.int x :: st) σ Q) := am_r_iload_n d97_32
theorem r97_33  : am_Rn L xs d 97 33 ls st σ Q = am_li ls 3 (fun x => am_Rn L xs d 97 34 ls (.int x :: st) σ Q) := am_r_iload_n d97_33
theorem r97_34 {a b : Int32} : am_Rn L xs d 97 34 ls (.int b :: .int a :: st) σ Q = if a = b then am_Rn L xs d 97 41 ls st σ Q else am_Rn L xs d 97 37 ls st σ Q := (am_r_icmp (t := 41) d97_34 (by decide)).trans (am_ite _ _ trivial (by simp only [am_cond, decide_eq_true_eq]))
theorem r97_37  : am_Rn L xs d 97 37 ls st σ Q = am_Rn L xs d 97 38 ls (.int 1 :: st) σ Q := am_r_iconst d97_37 (by decide)
theorem r97_38  : am_Rn L xs d 97 38 ls st σ Q = am_Rn L xs d 97 42 ls st σ Q := am_r_goto d97_38 (by decide)
theorem r97_41  : am_Rn L xs d 97 41 ls st σ Q = am_Rn L xs d 97 42 ls (.int 0 :: st) σ Q := am_r_iconst d97_41 (by decide)
theorem r97_42 {v : Int32} (hv : v = 0 ∨ v = 1) : am_Rn L xs d 97 42 ls [.int v] σ Q = Q (some (.int v)) σ := am_r_zreturn d97_42 rfl hv
theorem d98_0 : decode (pg_code 98) 0 = .ok (.iconst (-1), 1) := by decide +kernel
theorem d98_1 : decode (pg_code 98) 1 = .ok (.istore_n 1, 1) := by decide +kernel
theorem d98_2 : decode (pg_code 98) 2 = .ok (.iconst 1, 1) := by decide +kernel
theorem d98_3 : decode (pg_code 98) 3 = .ok (.istore_n 2, 1) := by decide +kernel
theorem d98_4 : decode (pg_code 98) 4 = .ok (.iconst 0, 1) := by decide +kernel
theorem d98_5 : decode (pg_code 98) 5 = .ok (.istore_n 3, 1) := by decide +kernel
theorem d98_6 : decode (pg_code 98) 6 = .ok (.iconst 0, 1) := by decide +kernel
theorem d98_7 : decode (pg_code 98) 7 = .ok (.istore 4, 2) := by decide +kernel
theorem d98_9 : decode (pg_code 98) 9 = .ok (.iload 4, 2) := by decide +kernel
theorem d98_11 : decode (pg_code 98) 11 = .ok (.aload_n 0, 1) := by decide +kernel
theorem d98_12 : decode (pg_code 98) 12 = .ok (.getfield 7, 3) := by decide +kernel
theorem d98_15 : decode (pg_code 98) 15 = .ok (.aload_n 0, 1) := by decide +kernel
theorem d98_16 : decode (pg_code 98) 16 = .ok (.getfield 129, 3) := by decide +kernel
theorem d98_19 : decode (pg_code 98) 19 = .ok (.iaload, 1) := by decide +kernel
theorem d98_20 : decode (pg_code 98) 20 = .ok (.if_icmp .ge 170, 3) := by decide +kernel
theorem d98_23 : decode (pg_code 98) 23 = .ok (.aload_n 0, 1) := by decide +kernel
theorem d98_24 : decode (pg_code 98) 24 = .ok (.getfield 44, 3) := by decide +kernel
theorem d98_27 : decode (pg_code 98) 27 = .ok (.iload 4, 2) := by decide +kernel
theorem d98_29 : decode (pg_code 98) 29 = .ok (.iaload, 1) := by decide +kernel
theorem d98_30 : decode (pg_code 98) 30 = .ok (.istore 5, 2) := by decide +kernel
theorem d98_32 : decode (pg_code 98) 32 = .ok (.iconst 0, 1) := by decide +kernel
theorem d98_33 : decode (pg_code 98) 33 = .ok (.istore 6, 2) := by decide +kernel
theorem d98_35 : decode (pg_code 98) 35 = .ok (.iload 6, 2) := by decide +kernel
theorem d98_37 : decode (pg_code 98) 37 = .ok (.aload_n 0, 1) := by decide +kernel
theorem d98_38 : decode (pg_code 98) 38 = .ok (.getfield 7, 3) := by decide +kernel
theorem d98_41 : decode (pg_code 98) 41 = .ok (.aload_n 0, 1) := by decide +kernel
theorem d98_42 : decode (pg_code 98) 42 = .ok (.getfield 141, 3) := by decide +kernel
theorem d98_45 : decode (pg_code 98) 45 = .ok (.iaload, 1) := by decide +kernel
theorem d98_46 : decode (pg_code 98) 46 = .ok (.if_icmp .ge 138, 3) := by decide +kernel
theorem d98_49 : decode (pg_code 98) 49 = .ok (.iload 5, 2) := by decide +kernel
theorem d98_51 : decode (pg_code 98) 51 = .ok (.iload_n 2, 1) := by decide +kernel
theorem d98_52 : decode (pg_code 98) 52 = .ok (.if_icmp .lt 132, 3) := by decide +kernel
theorem d98_55 : decode (pg_code 98) 55 = .ok (.iload 5, 2) := by decide +kernel
theorem d98_57 : decode (pg_code 98) 57 = .ok (.iconst 1, 1) := by decide +kernel
theorem d98_58 : decode (pg_code 98) 58 = .ok (.if_icmp .le 126, 3) := by decide +kernel
theorem d98_61 : decode (pg_code 98) 61 = .ok (.aload_n 0, 1) := by decide +kernel
theorem d98_62 : decode (pg_code 98) 62 = .ok (.getfield 22, 3) := by decide +kernel
theorem d98_65 : decode (pg_code 98) 65 = .ok (.iload 4, 2) := by decide +kernel
theorem d98_67 : decode (pg_code 98) 67 = .ok (.iaload, 1) := by decide +kernel
theorem d98_68 : decode (pg_code 98) 68 = .ok (.ifCond .ge 116, 3) := by decide +kernel
theorem d98_71 : decode (pg_code 98) 71 = .ok (.aload_n 0, 1) := by decide +kernel
theorem d98_72 : decode (pg_code 98) 72 = .ok (.getfield 25, 3) := by decide +kernel
theorem d98_75 : decode (pg_code 98) 75 = .ok (.iload 6, 2) := by decide +kernel
theorem d98_77 : decode (pg_code 98) 77 = .ok (.iaload, 1) := by decide +kernel
theorem d98_78 : decode (pg_code 98) 78 = .ok (.ifCond .ge 100, 3) := by decide +kernel
theorem d98_81 : decode (pg_code 98) 81 = .ok (.aload_n 0, 1) := by decide +kernel
theorem d98_82 : decode (pg_code 98) 82 = .ok (.getfield 28, 3) := by decide +kernel
theorem d98_85 : decode (pg_code 98) 85 = .ok (.bipush 12, 2) := by decide +kernel
theorem d98_87 : decode (pg_code 98) 87 = .ok (.iload 4, 2) := by decide +kernel
theorem d98_89 : decode (pg_code 98) 89 = .ok (.imul, 1) := by decide +kernel
theorem d98_90 : decode (pg_code 98) 90 = .ok (.iload 6, 2) := by decide +kernel
theorem d98_92 : decode (pg_code 98) 92 = .ok (.iadd, 1) := by decide +kernel
theorem d98_93 : decode (pg_code 98) 93 = .ok (.baload, 1) := by decide +kernel
theorem d98_94 : decode (pg_code 98) 94 = .ok (.ifCond .eq 84, 3) := by decide +kernel
theorem d98_97 : decode (pg_code 98) 97 = .ok (.iload 4, 2) := by decide +kernel
theorem d98_99 : decode (pg_code 98) 99 = .ok (.ifCond .eq 8, 3) := by decide +kernel
theorem d98_102 : decode (pg_code 98) 102 = .ok (.iload 6, 2) := by decide +kernel
theorem d98_104 : decode (pg_code 98) 104 = .ok (.ifCond .ne 7, 3) := by decide +kernel
theorem d98_107 : decode (pg_code 98) 107 = .ok (.iconst 0, 1) := by decide +kernel
theorem d98_108 : decode (pg_code 98) 108 = .ok (.goto 37, 3) := by decide +kernel
theorem d98_111 : decode (pg_code 98) 111 = .ok (.aload_n 0, 1) := by decide +kernel
theorem d98_112 : decode (pg_code 98) 112 = .ok (.aload_n 0, 1) := by decide +kernel
theorem d98_113 : decode (pg_code 98) 113 = .ok (.getfield 13, 3) := by decide +kernel
theorem d98_116 : decode (pg_code 98) 116 = .ok (.bipush 12, 2) := by decide +kernel
theorem d98_118 : decode (pg_code 98) 118 = .ok (.aload_n 0, 1) := by decide +kernel
theorem d98_119 : decode (pg_code 98) 119 = .ok (.getfield 129, 3) := by decide +kernel
theorem d98_122 : decode (pg_code 98) 122 = .ok (.imul, 1) := by decide +kernel
theorem d98_123 : decode (pg_code 98) 123 = .ok (.iload 4, 2) := by decide +kernel
theorem d98_125 : decode (pg_code 98) 125 = .ok (.iadd, 1) := by decide +kernel
theorem d98_126 : decode (pg_code 98) 126 = .ok (.iaload, 1) := by decide +kernel
theorem d98_127 : decode (pg_code 98) 127 = .ok (.aload_n 0, 1) := by decide +kernel
theorem d98_128 : decode (pg_code 98) 128 = .ok (.getfield 13, 3) := by decide +kernel
theorem d98_131 : decode (pg_code 98) 131 = .ok (.bipush 12, 2) := by decide +kernel
theorem d98_133 : decode (pg_code 98) 133 = .ok (.aload_n 0, 1) := by decide +kernel
theorem d98_134 : decode (pg_code 98) 134 = .ok (.getfield 141, 3) := by decide +kernel
theorem d98_137 : decode (pg_code 98) 137 = .ok (.imul, 1) := by decide +kernel
theorem d98_138 : decode (pg_code 98) 138 = .ok (.iload 6, 2) := by decide +kernel
theorem d98_140 : decode (pg_code 98) 140 = .ok (.iadd, 1) := by decide +kernel
theorem d98_141 : decode (pg_code 98) 141 = .ok (.iaload, 1) := by decide +kernel
theorem d98_142 : decode (pg_code 98) 142 = .ok (.invokevirtual 144, 3) := by decide +kernel
theorem d98_145 : decode (pg_code 98) 145 = .ok (.istore 7, 2) := by decide +kernel
theorem d98_147 : decode (pg_code 98) 147 = .ok (.iload_n 1, 1) := by decide +kernel
theorem d98_148 : decode (pg_code 98) 148 = .ok (.ifCond .lt 15, 3) := by decide +kernel
theorem d98_151 : decode (pg_code 98) 151 = .ok (.iload 5, 2) := by decide +kernel
theorem d98_153 : decode (pg_code 98) 153 = .ok (.iload_n 2, 1) := by decide +kernel
theorem d98_154 : decode (pg_code 98) 154 = .ok (.if_icmp .gt 9, 3) := by decide +kernel
theorem d98_157 : decode (pg_code 98) 157 = .ok (.iload 7, 2) := by decide +kernel
theorem d98_159 : decode (pg_code 98) 159 = .ok (.iload_n 3, 1) := by decide +kernel
theorem d98_160 : decode (pg_code 98) 160 = .ok (.if_icmp .le 18, 3) := by decide +kernel
theorem d98_163 : decode (pg_code 98) 163 = .ok (.bipush 12, 2) := by decide +kernel
theorem d98_165 : decode (pg_code 98) 165 = .ok (.iload 4, 2) := by decide +kernel
theorem d98_167 : decode (pg_code 98) 167 = .ok (.imul, 1) := by decide +kernel
theorem d98_168 : decode (pg_code 98) 168 = .ok (.iload 6, 2) := by decide +kernel
theorem d98_170 : decode (pg_code 98) 170 = .ok (.iadd, 1) := by decide +kernel
theorem d98_171 : decode (pg_code 98) 171 = .ok (.istore_n 1, 1) := by decide +kernel
theorem d98_172 : decode (pg_code 98) 172 = .ok (.iload 5, 2) := by decide +kernel
theorem d98_174 : decode (pg_code 98) 174 = .ok (.istore_n 2, 1) := by decide +kernel
theorem d98_175 : decode (pg_code 98) 175 = .ok (.iload 7, 2) := by decide +kernel
theorem d98_177 : decode (pg_code 98) 177 = .ok (.istore_n 3, 1) := by decide +kernel
theorem d98_178 : decode (pg_code 98) 178 = .ok (.iinc 6 1, 3) := by decide +kernel
theorem d98_181 : decode (pg_code 98) 181 = .ok (.goto (-146), 3) := by decide +kernel
theorem d98_184 : decode (pg_code 98) 184 = .ok (.iinc 4 1, 3) := by decide +kernel
theorem d98_187 : decode (pg_code 98) 187 = .ok (.goto (-178), 3) := by decide +kernel
theorem d98_190 : decode (pg_code 98) 190 = .ok (.iload_n 1, 1) := by decide +kernel
theorem d98_191 : decode (pg_code 98) 191 = .ok (.ireturn, 1) := by decide +kernel
theorem e98 {b1 : Value} : am_Call L xs d 98 [b1] σ Q = am_Rn L xs d 98 0 [b1, .retAddr 0, .retAddr 0, .retAddr 0, .retAddr 0, .retAddr 0, .retAddr 0, .retAddr 0] [] σ Q := rfl
theorem r98_0  : am_Rn L xs d 98 0 ls st σ Q = am_Rn L xs d 98 1 ls (.int (-1) :: st) σ Q := am_r_iconst d98_0 (by decide)
theorem r98_1 {x : Int32} : am_Rn L xs d 98 1 ls (.int x :: st) σ Q = (1 < ls.length ∧ am_Rn L xs d 98 2 (ls.set 1 (.int x)) st σ Q) := am_r_istore_n d98_1
theorem r98_2  : am_Rn L xs d 98 2 ls st σ Q = am_Rn L xs d 98 3 ls (.int 1 :: st) σ Q := am_r_iconst d98_2 (by decide)
theorem r98_3 {x : Int32} : am_Rn L xs d 98 3 ls (.int x :: st) σ Q = (2 < ls.length ∧ am_Rn L xs d 98 4 (ls.set 2 (.int x)) st σ Q) := am_r_istore_n d98_3
theorem r98_4  : am_Rn L xs d 98 4 ls st σ Q = am_Rn L xs d 98 5 ls (.int 0 :: st) σ Q := am_r_iconst d98_4 (by decide)
theorem r98_5 {x : Int32} : am_Rn L xs d 98 5 ls (.int x :: st) σ Q = (3 < ls.length ∧ am_Rn L xs d 98 6 (ls.set 3 (.int x)) st σ Q) := am_r_istore_n d98_5
theorem r98_6  : am_Rn L xs d 98 6 ls st σ Q = am_Rn L xs d 98 7 ls (.int 0 :: st) σ Q := am_r_iconst d98_6 (by decide)
theorem r98_7 {x : Int32} : am_Rn L xs d 98 7 ls (.int x :: st) σ Q = (4 < ls.length ∧ am_Rn L xs d 98 9 (ls.set 4 (.int x)) st σ Q) := am_r_istore d98_7
theorem r98_9  : am_Rn L xs d 98 9 ls st σ Q = am_li ls 4 (fun x => am_Rn L xs d 98 11 ls (.int x :: st) σ Q) := am_r_iload d98_9
theorem r98_11  : am_Rn L xs d 98 11 ls st σ Q = am_la ls 0 (fun x => am_Rn L xs d 98 12 ls (x :: st) σ Q) := am_r_aload_n d98_11
theorem r98_12 {p : Nat} : am_Rn L xs d 98 12 ls (.ref p :: st) σ Q = am_fd σ p 6 0 (fun v => am_Rn L xs d 98 15 ls (v :: st) σ Q) := am_r_getfield d98_12 rfl
theorem r98_15  : am_Rn L xs d 98 15 ls st σ Q = am_la ls 0 (fun x => am_Rn L xs d 98 16 ls (x :: st) σ Q) := am_r_aload_n d98_15
theorem r98_16 {p : Nat} : am_Rn L xs d 98 16 ls (.ref p :: st) σ Q = am_fd σ p 6 16 (fun v => am_Rn L xs d 98 19 ls (v :: st) σ Q) := am_r_getfield d98_16 rfl
theorem r98_19 {p : Nat} {i : Int32} : am_Rn L xs d 98 19 ls (.int i :: .ref p :: st) σ Q = am_ai 0 σ p i (fun x => am_Rn L xs d 98 20 ls (.int x :: st) σ Q) := am_r_iaload d98_19
theorem r98_20 {a b : Int32} : am_Rn L xs d 98 20 ls (.int b :: .int a :: st) σ Q = if b ≤ a then am_Rn L xs d 98 190 ls st σ Q else am_Rn L xs d 98 23 ls st σ Q := (am_r_icmp (t := 190) d98_20 (by decide)).trans (am_ite _ _ trivial (by simp only [am_cond, decide_eq_true_eq]))
theorem r98_23  : am_Rn L xs d 98 23 ls st σ Q = am_la ls 0 (fun x => am_Rn L xs d 98 24 ls (x :: st) σ Q) := am_r_aload_n d98_23
theorem r98_24 {p : Nat} : am_Rn L xs d 98 24 ls (.ref p :: st) σ Q = am_fd σ p 6 11 (fun v => am_Rn L xs d 98 27 ls (v :: st) σ Q) := am_r_getfield d98_24 rfl
theorem r98_27  : am_Rn L xs d 98 27 ls st σ Q = am_li ls 4 (fun x => am_Rn L xs d 98 29 ls (.int x :: st) σ Q) := am_r_iload d98_27
theorem r98_29 {p : Nat} {i : Int32} : am_Rn L xs d 98 29 ls (.int i :: .ref p :: st) σ Q = am_ai 0 σ p i (fun x => am_Rn L xs d 98 30 ls (.int x :: st) σ Q) := am_r_iaload d98_29
theorem r98_30 {x : Int32} : am_Rn L xs d 98 30 ls (.int x :: st) σ Q = (5 < ls.length ∧ am_Rn L xs d 98 32 (ls.set 5 (.int x)) st σ Q) := am_r_istore d98_30
theorem r98_32  : am_Rn L xs d 98 32 ls st σ Q = am_Rn L xs d 98 33 ls (.int 0 :: st) σ Q := am_r_iconst d98_32 (by decide)
theorem r98_33 {x : Int32} : am_Rn L xs d 98 33 ls (.int x :: st) σ Q = (6 < ls.length ∧ am_Rn L xs d 98 35 (ls.set 6 (.int x)) st σ Q) := am_r_istore d98_33
theorem r98_35  : am_Rn L xs d 98 35 ls st σ Q = am_li ls 6 (fun x => am_Rn L xs d 98 37 ls (.int x :: st) σ Q) := am_r_iload d98_35
theorem r98_37  : am_Rn L xs d 98 37 ls st σ Q = am_la ls 0 (fun x => am_Rn L xs d 98 38 ls (x :: st) σ Q) := am_r_aload_n d98_37
theorem r98_38 {p : Nat} : am_Rn L xs d 98 38 ls (.ref p :: st) σ Q = am_fd σ p 6 0 (fun v => am_Rn L xs d 98 41 ls (v :: st) σ Q) := am_r_getfield d98_38 rfl
theorem r98_41  : am_Rn L xs d 98 41 ls st σ Q = am_la ls 0 (fun x => am_Rn L xs d 98 42 ls (x :: st) σ Q) := am_r_aload_n d98_41
theorem r98_42 {p : Nat} : am_Rn L xs d 98 42 ls (.ref p :: st) σ Q = am_fd σ p 6 17 (fun v => am_Rn L xs d 98 45 ls (v :: st) σ Q) := am_r_getfield d98_42 rfl
theorem r98_45 {p : Nat} {i : Int32} : am_Rn L xs d 98 45 ls (.int i :: .ref p :: st) σ Q = am_ai 0 σ p i (fun x => am_Rn L xs d 98 46 ls (.int x :: st) σ Q) := am_r_iaload d98_45
theorem r98_46 {a b : Int32} : am_Rn L xs d 98 46 ls (.int b :: .int a :: st) σ Q = if b ≤ a then am_Rn L xs d 98 184 ls st σ Q else am_Rn L xs d 98 49 ls st σ Q := (am_r_icmp (t := 184) d98_46 (by decide)).trans (am_ite _ _ trivial (by simp only [am_cond, decide_eq_true_eq]))
theorem r98_49  : am_Rn L xs d 98 49 ls st σ Q = am_li ls 5 (fun x => am_Rn L xs d 98 51 ls (.int x :: st) σ Q) := am_r_iload d98_49
theorem r98_51  : am_Rn L xs d 98 51 ls st σ Q = am_li ls 2 (fun x => am_Rn L xs d 98 52 ls (.int x :: st) σ Q) := am_r_iload_n d98_51
theorem r98_52 {a b : Int32} : am_Rn L xs d 98 52 ls (.int b :: .int a :: st) σ Q = if a < b then am_Rn L xs d 98 184 ls st σ Q else am_Rn L xs d 98 55 ls st σ Q := (am_r_icmp (t := 184) d98_52 (by decide)).trans (am_ite _ _ trivial (by simp only [am_cond, decide_eq_true_eq]))
theorem r98_55  : am_Rn L xs d 98 55 ls st σ Q = am_li ls 5 (fun x => am_Rn L xs d 98 57 ls (.int x :: st) σ Q) := am_r_iload d98_55
theorem r98_57  : am_Rn L xs d 98 57 ls st σ Q = am_Rn L xs d 98 58 ls (.int 1 :: st) σ Q := am_r_iconst d98_57 (by decide)
theorem r98_58 {a b : Int32} : am_Rn L xs d 98 58 ls (.int b :: .int a :: st) σ Q = if a ≤ b then am_Rn L xs d 98 184 ls st σ Q else am_Rn L xs d 98 61 ls st σ Q := (am_r_icmp (t := 184) d98_58 (by decide)).trans (am_ite _ _ trivial (by simp only [am_cond, decide_eq_true_eq]))
theorem r98_61  : am_Rn L xs d 98 61 ls st σ Q = am_la ls 0 (fun x => am_Rn L xs d 98 62 ls (x :: st) σ Q) := am_r_aload_n d98_61
theorem r98_62 {p : Nat} : am_Rn L xs d 98 62 ls (.ref p :: st) σ Q = am_fd σ p 6 4 (fun v => am_Rn L xs d 98 65 ls (v :: st) σ Q) := am_r_getfield d98_62 rfl
theorem r98_65  : am_Rn L xs d 98 65 ls st σ Q = am_li ls 4 (fun x => am_Rn L xs d 98 67 ls (.int x :: st) σ Q) := am_r_iload d98_65
theorem r98_67 {p : Nat} {i : Int32} : am_Rn L xs d 98 67 ls (.int i :: .ref p :: st) σ Q = am_ai 0 σ p i (fun x => am_Rn L xs d 98 68 ls (.int x :: st) σ Q) := am_r_iaload d98_67
theorem r98_68 {a : Int32} : am_Rn L xs d 98 68 ls (.int a :: st) σ Q = if 0 ≤ a then am_Rn L xs d 98 184 ls st σ Q else am_Rn L xs d 98 71 ls st σ Q := (am_r_if (t := 184) d98_68 (by decide)).trans (am_ite _ _ trivial (by simp only [am_cond, decide_eq_true_eq]))
theorem r98_71  : am_Rn L xs d 98 71 ls st σ Q = am_la ls 0 (fun x => am_Rn L xs d 98 72 ls (x :: st) σ Q) := am_r_aload_n d98_71
theorem r98_72 {p : Nat} : am_Rn L xs d 98 72 ls (.ref p :: st) σ Q = am_fd σ p 6 5 (fun v => am_Rn L xs d 98 75 ls (v :: st) σ Q) := am_r_getfield d98_72 rfl
theorem r98_75  : am_Rn L xs d 98 75 ls st σ Q = am_li ls 6 (fun x => am_Rn L xs d 98 77 ls (.int x :: st) σ Q) := am_r_iload d98_75
theorem r98_77 {p : Nat} {i : Int32} : am_Rn L xs d 98 77 ls (.int i :: .ref p :: st) σ Q = am_ai 0 σ p i (fun x => am_Rn L xs d 98 78 ls (.int x :: st) σ Q) := am_r_iaload d98_77
theorem r98_78 {a : Int32} : am_Rn L xs d 98 78 ls (.int a :: st) σ Q = if 0 ≤ a then am_Rn L xs d 98 178 ls st σ Q else am_Rn L xs d 98 81 ls st σ Q := (am_r_if (t := 178) d98_78 (by decide)).trans (am_ite _ _ trivial (by simp only [am_cond, decide_eq_true_eq]))
theorem r98_81  : am_Rn L xs d 98 81 ls st σ Q = am_la ls 0 (fun x => am_Rn L xs d 98 82 ls (x :: st) σ Q) := am_r_aload_n d98_81
theorem r98_82 {p : Nat} : am_Rn L xs d 98 82 ls (.ref p :: st) σ Q = am_fd σ p 6 6 (fun v => am_Rn L xs d 98 85 ls (v :: st) σ Q) := am_r_getfield d98_82 rfl
theorem r98_85  : am_Rn L xs d 98 85 ls st σ Q = am_Rn L xs d 98 87 ls (.int 12 :: st) σ Q := am_r_bipush d98_85 (by decide)
theorem r98_87  : am_Rn L xs d 98 87 ls st σ Q = am_li ls 4 (fun x => am_Rn L xs d 98 89 ls (.int x :: st) σ Q) := am_r_iload d98_87
theorem r98_89 {a b : Int32} : am_Rn L xs d 98 89 ls (.int b :: .int a :: st) σ Q = am_Rn L xs d 98 90 ls (.int (a * b) :: st) σ Q := am_r_imul d98_89
theorem r98_90  : am_Rn L xs d 98 90 ls st σ Q = am_li ls 6 (fun x => am_Rn L xs d 98 92 ls (.int x :: st) σ Q) := am_r_iload d98_90
theorem r98_92 {a b : Int32} : am_Rn L xs d 98 92 ls (.int b :: .int a :: st) σ Q = am_Rn L xs d 98 93 ls (.int (a + b) :: st) σ Q := am_r_iadd d98_92
theorem r98_93 {p : Nat} {i : Int32} : am_Rn L xs d 98 93 ls (.int i :: .ref p :: st) σ Q = am_ai 1 σ p i (fun x => am_Rn L xs d 98 94 ls (.int x :: st) σ Q) := am_r_baload d98_93
theorem r98_94 {a : Int32} : am_Rn L xs d 98 94 ls (.int a :: st) σ Q = if a = 0 then am_Rn L xs d 98 178 ls st σ Q else am_Rn L xs d 98 97 ls st σ Q := (am_r_if (t := 178) d98_94 (by decide)).trans (am_ite _ _ trivial (by simp only [am_cond, decide_eq_true_eq]))
theorem r98_97  : am_Rn L xs d 98 97 ls st σ Q = am_li ls 4 (fun x => am_Rn L xs d 98 99 ls (.int x :: st) σ Q) := am_r_iload d98_97
theorem r98_99 {a : Int32} : am_Rn L xs d 98 99 ls (.int a :: st) σ Q = if a = 0 then am_Rn L xs d 98 107 ls st σ Q else am_Rn L xs d 98 102 ls st σ Q := (am_r_if (t := 107) d98_99 (by decide)).trans (am_ite _ _ trivial (by simp only [am_cond, decide_eq_true_eq]))
theorem r98_102  : am_Rn L xs d 98 102 ls st σ Q = am_li ls 6 (fun x => am_Rn L xs d 98 104 ls (.int x :: st) σ Q) := am_r_iload d98_102
theorem r98_104 {a : Int32} : am_Rn L xs d 98 104 ls (.int a :: st) σ Q = if ¬ a = 0 then am_Rn L xs d 98 111 ls st σ Q else am_Rn L xs d 98 107 ls st σ Q := (am_r_if (t := 111) d98_104 (by decide)).trans (am_ite _ _ trivial (by simp only [am_cond, decide_eq_true_eq]))
theorem r98_107  : am_Rn L xs d 98 107 ls st σ Q = am_Rn L xs d 98 108 ls (.int 0 :: st) σ Q := am_r_iconst d98_107 (by decide)
theorem r98_108  : am_Rn L xs d 98 108 ls st σ Q = am_Rn L xs d 98 145 ls st σ Q := am_r_goto d98_108 (by decide)
theorem r98_111  : am_Rn L xs d 98 111 ls st σ Q = am_la ls 0 (fun x => am_Rn L xs d 98 112 ls (x :: st) σ Q) := am_r_aload_n d98_111
theorem r98_112  : am_Rn L xs d 98 112 ls st σ Q = am_la ls 0 (fun x => am_Rn L xs d 98 113 ls (x :: st) σ Q) := am_r_aload_n d98_112
theorem r98_113 {p : Nat} : am_Rn L xs d 98 113 ls (.ref p :: st) σ Q = am_fd σ p 6 1 (fun v => am_Rn L xs d 98 116 ls (v :: st) σ Q) := am_r_getfield d98_113 rfl
theorem r98_116  : am_Rn L xs d 98 116 ls st σ Q = am_Rn L xs d 98 118 ls (.int 12 :: st) σ Q := am_r_bipush d98_116 (by decide)
theorem r98_118  : am_Rn L xs d 98 118 ls st σ Q = am_la ls 0 (fun x => am_Rn L xs d 98 119 ls (x :: st) σ Q) := am_r_aload_n d98_118
theorem r98_119 {p : Nat} : am_Rn L xs d 98 119 ls (.ref p :: st) σ Q = am_fd σ p 6 16 (fun v => am_Rn L xs d 98 122 ls (v :: st) σ Q) := am_r_getfield d98_119 rfl
theorem r98_122 {a b : Int32} : am_Rn L xs d 98 122 ls (.int b :: .int a :: st) σ Q = am_Rn L xs d 98 123 ls (.int (a * b) :: st) σ Q := am_r_imul d98_122
theorem r98_123  : am_Rn L xs d 98 123 ls st σ Q = am_li ls 4 (fun x => am_Rn L xs d 98 125 ls (.int x :: st) σ Q) := am_r_iload d98_123
theorem r98_125 {a b : Int32} : am_Rn L xs d 98 125 ls (.int b :: .int a :: st) σ Q = am_Rn L xs d 98 126 ls (.int (a + b) :: st) σ Q := am_r_iadd d98_125
theorem r98_126 {p : Nat} {i : Int32} : am_Rn L xs d 98 126 ls (.int i :: .ref p :: st) σ Q = am_ai 0 σ p i (fun x => am_Rn L xs d 98 127 ls (.int x :: st) σ Q) := am_r_iaload d98_126
theorem r98_127  : am_Rn L xs d 98 127 ls st σ Q = am_la ls 0 (fun x => am_Rn L xs d 98 128 ls (x :: st) σ Q) := am_r_aload_n d98_127
theorem r98_128 {p : Nat} : am_Rn L xs d 98 128 ls (.ref p :: st) σ Q = am_fd σ p 6 1 (fun v => am_Rn L xs d 98 131 ls (v :: st) σ Q) := am_r_getfield d98_128 rfl
theorem r98_131  : am_Rn L xs d 98 131 ls st σ Q = am_Rn L xs d 98 133 ls (.int 12 :: st) σ Q := am_r_bipush d98_131 (by decide)
theorem r98_133  : am_Rn L xs d 98 133 ls st σ Q = am_la ls 0 (fun x => am_Rn L xs d 98 134 ls (x :: st) σ Q) := am_r_aload_n d98_133
theorem r98_134 {p : Nat} : am_Rn L xs d 98 134 ls (.ref p :: st) σ Q = am_fd σ p 6 17 (fun v => am_Rn L xs d 98 137 ls (v :: st) σ Q) := am_r_getfield d98_134 rfl
theorem r98_137 {a b : Int32} : am_Rn L xs d 98 137 ls (.int b :: .int a :: st) σ Q = am_Rn L xs d 98 138 ls (.int (a * b) :: st) σ Q := am_r_imul d98_137
theorem r98_138  : am_Rn L xs d 98 138 ls st σ Q = am_li ls 6 (fun x => am_Rn L xs d 98 140 ls (.int x :: st) σ Q) := am_r_iload d98_138
theorem r98_140 {a b : Int32} : am_Rn L xs d 98 140 ls (.int b :: .int a :: st) σ Q = am_Rn L xs d 98 141 ls (.int (a + b) :: st) σ Q := am_r_iadd d98_140
theorem r98_141 {p : Nat} {i : Int32} : am_Rn L xs d 98 141 ls (.int i :: .ref p :: st) σ Q = am_ai 0 σ p i (fun x => am_Rn L xs d 98 142 ls (.int x :: st) σ Q) := am_r_iaload d98_141
theorem r98_142 {a1 a2 : Value} {p : Nat} : am_Rn L xs (d + 1) 98 142 ls (a2 :: a1 :: .ref p :: st) σ Q = ((am_oc σ p = 6 ∧ st.length ≤ 4 ∧ am_ok a1 = true ∧ am_ok a2 = true) ∧ am_Call L xs d 99 [.ref p, a1, a2] σ (fun r σ1 => am_Rn L xs (d + 1) 98 145 ls (r.toList ++ st) σ1 Q)) := am_R_virtual2 d98_142 rfl ⟨by decide, rfl⟩ rfl rfl (by decide)
theorem r98_145 {x : Int32} : am_Rn L xs d 98 145 ls (.int x :: st) σ Q = (7 < ls.length ∧ am_Rn L xs d 98 147 (ls.set 7 (.int x)) st σ Q) := am_r_istore d98_145
theorem r98_147  : am_Rn L xs d 98 147 ls st σ Q = am_li ls 1 (fun x => am_Rn L xs d 98 148 ls (.int x :: st) σ Q) := am_r_iload_n d98_147
theorem r98_148 {a : Int32} : am_Rn L xs d 98 148 ls (.int a :: st) σ Q = if a < 0 then am_Rn L xs d 98 163 ls st σ Q else am_Rn L xs d 98 151 ls st σ Q := (am_r_if (t := 163) d98_148 (by decide)).trans (am_ite _ _ trivial (by simp only [am_cond, decide_eq_true_eq]))
theorem r98_151  : am_Rn L xs d 98 151 ls st σ Q = am_li ls 5 (fun x => am_Rn L xs d 98 153 ls (.int x :: st) σ Q) := am_r_iload d98_151
theorem r98_153  : am_Rn L xs d 98 153 ls st σ Q = am_li ls 2 (fun x => am_Rn L xs d 98 154 ls (.int x :: st) σ Q) := am_r_iload_n d98_153
theorem r98_154 {a b : Int32} : am_Rn L xs d 98 154 ls (.int b :: .int a :: st) σ Q = if b < a then am_Rn L xs d 98 163 ls st σ Q else am_Rn L xs d 98 157 ls st σ Q := (am_r_icmp (t := 163) d98_154 (by decide)).trans (am_ite _ _ trivial (by simp only [am_cond, decide_eq_true_eq]))
theorem r98_157  : am_Rn L xs d 98 157 ls st σ Q = am_li ls 7 (fun x => am_Rn L xs d 98 159 ls (.int x :: st) σ Q) := am_r_iload d98_157
theorem r98_159  : am_Rn L xs d 98 159 ls st σ Q = am_li ls 3 (fun x => am_Rn L xs d 98 160 ls (.int x :: st) σ Q) := am_r_iload_n d98_159
theorem r98_160 {a b : Int32} : am_Rn L xs d 98 160 ls (.int b :: .int a :: st) σ Q = if a ≤ b then am_Rn L xs d 98 178 ls st σ Q else am_Rn L xs d 98 163 ls st σ Q := (am_r_icmp (t := 178) d98_160 (by decide)).trans (am_ite _ _ trivial (by simp only [am_cond, decide_eq_true_eq]))
theorem r98_163  : am_Rn L xs d 98 163 ls st σ Q = am_Rn L xs d 98 165 ls (.int 12 :: st) σ Q := am_r_bipush d98_163 (by decide)
theorem r98_165  : am_Rn L xs d 98 165 ls st σ Q = am_li ls 4 (fun x => am_Rn L xs d 98 167 ls (.int x :: st) σ Q) := am_r_iload d98_165
theorem r98_167 {a b : Int32} : am_Rn L xs d 98 167 ls (.int b :: .int a :: st) σ Q = am_Rn L xs d 98 168 ls (.int (a * b) :: st) σ Q := am_r_imul d98_167
theorem r98_168  : am_Rn L xs d 98 168 ls st σ Q = am_li ls 6 (fun x => am_Rn L xs d 98 170 ls (.int x :: st) σ Q) := am_r_iload d98_168
theorem r98_170 {a b : Int32} : am_Rn L xs d 98 170 ls (.int b :: .int a :: st) σ Q = am_Rn L xs d 98 171 ls (.int (a + b) :: st) σ Q := am_r_iadd d98_170
theorem r98_171 {x : Int32} : am_Rn L xs d 98 171 ls (.int x :: st) σ Q = (1 < ls.length ∧ am_Rn L xs d 98 172 (ls.set 1 (.int x)) st σ Q) := am_r_istore_n d98_171
theorem r98_172  : am_Rn L xs d 98 172 ls st σ Q = am_li ls 5 (fun x => am_Rn L xs d 98 174 ls (.int x :: st) σ Q) := am_r_iload d98_172
theorem r98_174 {x : Int32} : am_Rn L xs d 98 174 ls (.int x :: st) σ Q = (2 < ls.length ∧ am_Rn L xs d 98 175 (ls.set 2 (.int x)) st σ Q) := am_r_istore_n d98_174
theorem r98_175  : am_Rn L xs d 98 175 ls st σ Q = am_li ls 7 (fun x => am_Rn L xs d 98 177 ls (.int x :: st) σ Q) := am_r_iload d98_175
theorem r98_177 {x : Int32} : am_Rn L xs d 98 177 ls (.int x :: st) σ Q = (3 < ls.length ∧ am_Rn L xs d 98 178 (ls.set 3 (.int x)) st σ Q) := am_r_istore_n d98_177
theorem r98_178  : am_Rn L xs d 98 178 ls st σ Q = am_li ls 6 (fun x => am_Rn L xs d 98 181 (ls.set 6 (.int (x + 1))) st σ Q) := am_r_iinc d98_178 (by decide)
theorem r98_181  : am_Rn L xs d 98 181 ls st σ Q = am_Rn L xs d 98 35 ls st σ Q := am_r_goto d98_181 (by decide)
theorem r98_184  : am_Rn L xs d 98 184 ls st σ Q = am_li ls 4 (fun x => am_Rn L xs d 98 187 (ls.set 4 (.int (x + 1))) st σ Q) := am_r_iinc d98_184 (by decide)
theorem r98_187  : am_Rn L xs d 98 187 ls st σ Q = am_Rn L xs d 98 9 ls st σ Q := am_r_goto d98_187 (by decide)
theorem r98_190  : am_Rn L xs d 98 190 ls st σ Q = am_li ls 1 (fun x => am_Rn L xs d 98 191 ls (.int x :: st) σ Q) := am_r_iload_n d98_190
theorem r98_191 {v : Int32} : am_Rn L xs d 98 191 ls [.int v] σ Q = Q (some (.int v)) σ := am_r_ireturn d98_191 rfl
theorem d99_0 : decode (pg_code 99) 0 = .ok (.iconst 0, 1) := by decide +kernel
theorem d99_1 : decode (pg_code 99) 1 = .ok (.istore_n 3, 1) := by decide +kernel
theorem d99_2 : decode (pg_code 99) 2 = .ok (.iload_n 1, 1) := by decide +kernel
theorem d99_3 : decode (pg_code 99) 3 = .ok (.iconst 1, 1) := by decide +kernel
theorem d99_4 : decode (pg_code 99) 4 = .ok (.iadd, 1) := by decide +kernel
theorem d99_5 : decode (pg_code 99) 5 = .ok (.istore 4, 2) := by decide +kernel
theorem d99_7 : decode (pg_code 99) 7 = .ok (.iload 4, 2) := by decide +kernel
theorem d99_9 : decode (pg_code 99) 9 = .ok (.aload_n 0, 1) := by decide +kernel
theorem d99_10 : decode (pg_code 99) 10 = .ok (.getfield 7, 3) := by decide +kernel
theorem d99_13 : decode (pg_code 99) 13 = .ok (.aload_n 0, 1) := by decide +kernel
theorem d99_14 : decode (pg_code 99) 14 = .ok (.getfield 129, 3) := by decide +kernel
theorem d99_17 : decode (pg_code 99) 17 = .ok (.iaload, 1) := by decide +kernel
theorem d99_18 : decode (pg_code 99) 18 = .ok (.if_icmp .ge 62, 3) := by decide +kernel
theorem d99_21 : decode (pg_code 99) 21 = .ok (.iload_n 3, 1) := by decide +kernel
theorem d99_22 : decode (pg_code 99) 22 = .ok (.aload_n 0, 1) := by decide +kernel
theorem d99_23 : decode (pg_code 99) 23 = .ok (.getfield 22, 3) := by decide +kernel
theorem d99_26 : decode (pg_code 99) 26 = .ok (.iload 4, 2) := by decide +kernel
theorem d99_28 : decode (pg_code 99) 28 = .ok (.iaload, 1) := by decide +kernel
theorem d99_29 : decode (pg_code 99) 29 = .ok (.ifCond .lt 42, 3) := by decide +kernel
theorem d99_32 : decode (pg_code 99) 32 = .ok (.aload_n 0, 1) := by decide +kernel
theorem d99_33 : decode (pg_code 99) 33 = .ok (.getfield 32, 3) := by decide +kernel
theorem d99_36 : decode (pg_code 99) 36 = .ok (.bipush 12, 2) := by decide +kernel
theorem d99_38 : decode (pg_code 99) 38 = .ok (.iload_n 1, 1) := by decide +kernel
theorem d99_39 : decode (pg_code 99) 39 = .ok (.imul, 1) := by decide +kernel
theorem d99_40 : decode (pg_code 99) 40 = .ok (.iload 4, 2) := by decide +kernel
theorem d99_42 : decode (pg_code 99) 42 = .ok (.iadd, 1) := by decide +kernel
theorem d99_43 : decode (pg_code 99) 43 = .ok (.baload, 1) := by decide +kernel
theorem d99_44 : decode (pg_code 99) 44 = .ok (.ifCond .eq 27, 3) := by decide +kernel
theorem d99_47 : decode (pg_code 99) 47 = .ok (.aload_n 0, 1) := by decide +kernel
theorem d99_48 : decode (pg_code 99) 48 = .ok (.getfield 35, 3) := by decide +kernel
theorem d99_51 : decode (pg_code 99) 51 = .ok (.bipush 12, 2) := by decide +kernel
theorem d99_53 : decode (pg_code 99) 53 = .ok (.iload_n 2, 1) := by decide +kernel
theorem d99_54 : decode (pg_code 99) 54 = .ok (.imul, 1) := by decide +kernel
theorem d99_55 : decode (pg_code 99) 55 = .ok (.aload_n 0, 1) := by decide +kernel
theorem d99_56 : decode (pg_code 99) 56 = .ok (.getfield 22, 3) := by decide +kernel
theorem d99_59 : decode (pg_code 99) 59 = .ok (.iload 4, 2) := by decide +kernel
theorem d99_61 : decode (pg_code 99) 61 = .ok (.iaload, 1) := by decide +kernel
theorem d99_62 : decode (pg_code 99) 62 = .ok (.iadd, 1) := by decide +kernel
theorem d99_63 : decode (pg_code 99) 63 = .ok (.baload, 1) := by decide +kernel
theorem d99_64 : decode (pg_code 99) 64 = .ok (.ifCond .eq 7, 3) := by decide +kernel
theorem d99_67 : decode (pg_code 99) 67 = .ok (.iconst 1, 1) := by decide +kernel
theorem d99_68 : decode (pg_code 99) 68 = .ok (.goto 4, 3) := by decide +kernel
theorem d99_71 : decode (pg_code 99) 71 = .ok (.iconst 0, 1) := by decide +kernel
theorem d99_72 : decode (pg_code 99) 72 = .ok (.iadd, 1) := by decide +kernel
theorem d99_73 : decode (pg_code 99) 73 = .ok (.istore_n 3, 1) := by decide +kernel
theorem d99_74 : decode (pg_code 99) 74 = .ok (.iinc 4 1, 3) := by decide +kernel
theorem d99_77 : decode (pg_code 99) 77 = .ok (.goto (-70), 3) := by decide +kernel
theorem d99_80 : decode (pg_code 99) 80 = .ok (.iload_n 3, 1) := by decide +kernel
theorem d99_81 : decode (pg_code 99) 81 = .ok (.ireturn, 1) := by decide +kernel
theorem e99 {b1 b2 b3 : Value} : am_Call L xs d 99 [b1, b2, b3] σ Q = am_Rn L xs d 99 0 [b1, b2, b3, .retAddr 0, .retAddr 0] [] σ Q := rfl
theorem r99_0  : am_Rn L xs d 99 0 ls st σ Q = am_Rn L xs d 99 1 ls (.int 0 :: st) σ Q := am_r_iconst d99_0 (by decide)
theorem r99_1 {x : Int32} : am_Rn L xs d 99 1 ls (.int x :: st) σ Q = (3 < ls.length ∧ am_Rn L xs d 99 2 (ls.set 3 (.int x)) st σ Q) := am_r_istore_n d99_1
theorem r99_2  : am_Rn L xs d 99 2 ls st σ Q = am_li ls 1 (fun x => am_Rn L xs d 99 3 ls (.int x :: st) σ Q) := am_r_iload_n d99_2
theorem r99_3  : am_Rn L xs d 99 3 ls st σ Q = am_Rn L xs d 99 4 ls (.int 1 :: st) σ Q := am_r_iconst d99_3 (by decide)
theorem r99_4 {a b : Int32} : am_Rn L xs d 99 4 ls (.int b :: .int a :: st) σ Q = am_Rn L xs d 99 5 ls (.int (a + b) :: st) σ Q := am_r_iadd d99_4
theorem r99_5 {x : Int32} : am_Rn L xs d 99 5 ls (.int x :: st) σ Q = (4 < ls.length ∧ am_Rn L xs d 99 7 (ls.set 4 (.int x)) st σ Q) := am_r_istore d99_5
theorem r99_7  : am_Rn L xs d 99 7 ls st σ Q = am_li ls 4 (fun x => am_Rn L xs d 99 9 ls (.int x :: st) σ Q) := am_r_iload d99_7
theorem r99_9  : am_Rn L xs d 99 9 ls st σ Q = am_la ls 0 (fun x => am_Rn L xs d 99 10 ls (x :: st) σ Q) := am_r_aload_n d99_9
theorem r99_10 {p : Nat} : am_Rn L xs d 99 10 ls (.ref p :: st) σ Q = am_fd σ p 6 0 (fun v => am_Rn L xs d 99 13 ls (v :: st) σ Q) := am_r_getfield d99_10 rfl
theorem r99_13  : am_Rn L xs d 99 13 ls st σ Q = am_la ls 0 (fun x => am_Rn L xs d 99 14 ls (x :: st) σ Q) := am_r_aload_n d99_13
theorem r99_14 {p : Nat} : am_Rn L xs d 99 14 ls (.ref p :: st) σ Q = am_fd σ p 6 16 (fun v => am_Rn L xs d 99 17 ls (v :: st) σ Q) := am_r_getfield d99_14 rfl
theorem r99_17 {p : Nat} {i : Int32} : am_Rn L xs d 99 17 ls (.int i :: .ref p :: st) σ Q = am_ai 0 σ p i (fun x => am_Rn L xs d 99 18 ls (.int x :: st) σ Q) := am_r_iaload d99_17
theorem r99_18 {a b : Int32} : am_Rn L xs d 99 18 ls (.int b :: .int a :: st) σ Q = if b ≤ a then am_Rn L xs d 99 80 ls st σ Q else am_Rn L xs d 99 21 ls st σ Q := (am_r_icmp (t := 80) d99_18 (by decide)).trans (am_ite _ _ trivial (by simp only [am_cond, decide_eq_true_eq]))
theorem r99_21  : am_Rn L xs d 99 21 ls st σ Q = am_li ls 3 (fun x => am_Rn L xs d 99 22 ls (.int x :: st) σ Q) := am_r_iload_n d99_21
theorem r99_22  : am_Rn L xs d 99 22 ls st σ Q = am_la ls 0 (fun x => am_Rn L xs d 99 23 ls (x :: st) σ Q) := am_r_aload_n d99_22
theorem r99_23 {p : Nat} : am_Rn L xs d 99 23 ls (.ref p :: st) σ Q = am_fd σ p 6 4 (fun v => am_Rn L xs d 99 26 ls (v :: st) σ Q) := am_r_getfield d99_23 rfl
theorem r99_26  : am_Rn L xs d 99 26 ls st σ Q = am_li ls 4 (fun x => am_Rn L xs d 99 28 ls (.int x :: st) σ Q) := am_r_iload d99_26
theorem r99_28 {p : Nat} {i : Int32} : am_Rn L xs d 99 28 ls (.int i :: .ref p :: st) σ Q = am_ai 0 σ p i (fun x => am_Rn L xs d 99 29 ls (.int x :: st) σ Q) := am_r_iaload d99_28
theorem r99_29 {a : Int32} : am_Rn L xs d 99 29 ls (.int a :: st) σ Q = if a < 0 then am_Rn L xs d 99 71 ls st σ Q else am_Rn L xs d 99 32 ls st σ Q := (am_r_if (t := 71) d99_29 (by decide)).trans (am_ite _ _ trivial (by simp only [am_cond, decide_eq_true_eq]))
theorem r99_32  : am_Rn L xs d 99 32 ls st σ Q = am_la ls 0 (fun x => am_Rn L xs d 99 33 ls (x :: st) σ Q) := am_r_aload_n d99_32
theorem r99_33 {p : Nat} : am_Rn L xs d 99 33 ls (.ref p :: st) σ Q = am_fd σ p 6 7 (fun v => am_Rn L xs d 99 36 ls (v :: st) σ Q) := am_r_getfield d99_33 rfl
theorem r99_36  : am_Rn L xs d 99 36 ls st σ Q = am_Rn L xs d 99 38 ls (.int 12 :: st) σ Q := am_r_bipush d99_36 (by decide)
theorem r99_38  : am_Rn L xs d 99 38 ls st σ Q = am_li ls 1 (fun x => am_Rn L xs d 99 39 ls (.int x :: st) σ Q) := am_r_iload_n d99_38
theorem r99_39 {a b : Int32} : am_Rn L xs d 99 39 ls (.int b :: .int a :: st) σ Q = am_Rn L xs d 99 40 ls (.int (a * b) :: st) σ Q := am_r_imul d99_39
theorem r99_40  : am_Rn L xs d 99 40 ls st σ Q = am_li ls 4 (fun x => am_Rn L xs d 99 42 ls (.int x :: st) σ Q) := am_r_iload d99_40
theorem r99_42 {a b : Int32} : am_Rn L xs d 99 42 ls (.int b :: .int a :: st) σ Q = am_Rn L xs d 99 43 ls (.int (a + b) :: st) σ Q := am_r_iadd d99_42
theorem r99_43 {p : Nat} {i : Int32} : am_Rn L xs d 99 43 ls (.int i :: .ref p :: st) σ Q = am_ai 1 σ p i (fun x => am_Rn L xs d 99 44 ls (.int x :: st) σ Q) := am_r_baload d99_43
theorem r99_44 {a : Int32} : am_Rn L xs d 99 44 ls (.int a :: st) σ Q = if a = 0 then am_Rn L xs d 99 71 ls st σ Q else am_Rn L xs d 99 47 ls st σ Q := (am_r_if (t := 71) d99_44 (by decide)).trans (am_ite _ _ trivial (by simp only [am_cond, decide_eq_true_eq]))
theorem r99_47  : am_Rn L xs d 99 47 ls st σ Q = am_la ls 0 (fun x => am_Rn L xs d 99 48 ls (x :: st) σ Q) := am_r_aload_n d99_47
theorem r99_48 {p : Nat} : am_Rn L xs d 99 48 ls (.ref p :: st) σ Q = am_fd σ p 6 8 (fun v => am_Rn L xs d 99 51 ls (v :: st) σ Q) := am_r_getfield d99_48 rfl
theorem r99_51  : am_Rn L xs d 99 51 ls st σ Q = am_Rn L xs d 99 53 ls (.int 12 :: st) σ Q := am_r_bipush d99_51 (by decide)
theorem r99_53  : am_Rn L xs d 99 53 ls st σ Q = am_li ls 2 (fun x => am_Rn L xs d 99 54 ls (.int x :: st) σ Q) := am_r_iload_n d99_53
theorem r99_54 {a b : Int32} : am_Rn L xs d 99 54 ls (.int b :: .int a :: st) σ Q = am_Rn L xs d 99 55 ls (.int (a * b) :: st) σ Q := am_r_imul d99_54
theorem r99_55  : am_Rn L xs d 99 55 ls st σ Q = am_la ls 0 (fun x => am_Rn L xs d 99 56 ls (x :: st) σ Q) := am_r_aload_n d99_55
theorem r99_56 {p : Nat} : am_Rn L xs d 99 56 ls (.ref p :: st) σ Q = am_fd σ p 6 4 (fun v => am_Rn L xs d 99 59 ls (v :: st) σ Q) := am_r_getfield d99_56 rfl
theorem r99_59  : am_Rn L xs d 99 59 ls st σ Q = am_li ls 4 (fun x => am_Rn L xs d 99 61 ls (.int x :: st) σ Q) := am_r_iload d99_59
theorem r99_61 {p : Nat} {i : Int32} : am_Rn L xs d 99 61 ls (.int i :: .ref p :: st) σ Q = am_ai 0 σ p i (fun x => am_Rn L xs d 99 62 ls (.int x :: st) σ Q) := am_r_iaload d99_61
theorem r99_62 {a b : Int32} : am_Rn L xs d 99 62 ls (.int b :: .int a :: st) σ Q = am_Rn L xs d 99 63 ls (.int (a + b) :: st) σ Q := am_r_iadd d99_62
theorem r99_63 {p : Nat} {i : Int32} : am_Rn L xs d 99 63 ls (.int i :: .ref p :: st) σ Q = am_ai 1 σ p i (fun x => am_Rn L xs d 99 64 ls (.int x :: st) σ Q) := am_r_baload d99_63
theorem r99_64 {a : Int32} : am_Rn L xs d 99 64 ls (.int a :: st) σ Q = if a = 0 then am_Rn L xs d 99 71 ls st σ Q else am_Rn L xs d 99 67 ls st σ Q := (am_r_if (t := 71) d99_64 (by decide)).trans (am_ite _ _ trivial (by simp only [am_cond, decide_eq_true_eq]))
theorem r99_67  : am_Rn L xs d 99 67 ls st σ Q = am_Rn L xs d 99 68 ls (.int 1 :: st) σ Q := am_r_iconst d99_67 (by decide)
theorem r99_68  : am_Rn L xs d 99 68 ls st σ Q = am_Rn L xs d 99 72 ls st σ Q := am_r_goto d99_68 (by decide)
theorem r99_71  : am_Rn L xs d 99 71 ls st σ Q = am_Rn L xs d 99 72 ls (.int 0 :: st) σ Q := am_r_iconst d99_71 (by decide)
theorem r99_72 {a b : Int32} : am_Rn L xs d 99 72 ls (.int b :: .int a :: st) σ Q = am_Rn L xs d 99 73 ls (.int (a + b) :: st) σ Q := am_r_iadd d99_72
theorem r99_73 {x : Int32} : am_Rn L xs d 99 73 ls (.int x :: st) σ Q = (3 < ls.length ∧ am_Rn L xs d 99 74 (ls.set 3 (.int x)) st σ Q) := am_r_istore_n d99_73
theorem r99_74  : am_Rn L xs d 99 74 ls st σ Q = am_li ls 4 (fun x => am_Rn L xs d 99 77 (ls.set 4 (.int (x + 1))) st σ Q) := am_r_iinc d99_74 (by decide)
theorem r99_77  : am_Rn L xs d 99 77 ls st σ Q = am_Rn L xs d 99 7 ls st σ Q := am_r_goto d99_77 (by decide)
theorem r99_80  : am_Rn L xs d 99 80 ls st σ Q = am_li ls 3 (fun x => am_Rn L xs d 99 81 ls (.int x :: st) σ Q) := am_r_iload_n d99_80
theorem r99_81 {v : Int32} : am_Rn L xs d 99 81 ls [.int v] σ Q = Q (some (.int v)) σ := am_r_ireturn d99_81 rfl
theorem d100_0 : decode (pg_code 100) 0 = .ok (.aload_n 0, 1) := by decide +kernel
theorem d100_1 : decode (pg_code 100) 1 = .ok (.iload_n 1, 1) := by decide +kernel
theorem d100_2 : decode (pg_code 100) 2 = .ok (.iload_n 2, 1) := by decide +kernel
theorem d100_3 : decode (pg_code 100) 3 = .ok (.invokevirtual 147, 3) := by decide +kernel
theorem d100_6 : decode (pg_code 100) 6 = .ok (.iload_n 1, 1) := by decide +kernel
theorem d100_7 : decode (pg_code 100) 7 = .ok (.iconst 1, 1) := by decide +kernel
theorem d100_8 : decode (pg_code 100) 8 = .ok (.iadd, 1) := by decide +kernel
theorem d100_9 : decode (pg_code 100) 9 = .ok (.istore_n 3, 1) := by decide +kernel
theorem d100_10 : decode (pg_code 100) 10 = .ok (.iload_n 3, 1) := by decide +kernel
theorem d100_11 : decode (pg_code 100) 11 = .ok (.aload_n 0, 1) := by decide +kernel
theorem d100_12 : decode (pg_code 100) 12 = .ok (.getfield 7, 3) := by decide +kernel
theorem d100_15 : decode (pg_code 100) 15 = .ok (.aload_n 0, 1) := by decide +kernel
theorem d100_16 : decode (pg_code 100) 16 = .ok (.getfield 129, 3) := by decide +kernel
theorem d100_19 : decode (pg_code 100) 19 = .ok (.iaload, 1) := by decide +kernel
theorem d100_20 : decode (pg_code 100) 20 = .ok (.if_icmp .ge 112, 3) := by decide +kernel
theorem d100_23 : decode (pg_code 100) 23 = .ok (.aload_n 0, 1) := by decide +kernel
theorem d100_24 : decode (pg_code 100) 24 = .ok (.getfield 32, 3) := by decide +kernel
theorem d100_27 : decode (pg_code 100) 27 = .ok (.bipush 12, 2) := by decide +kernel
theorem d100_29 : decode (pg_code 100) 29 = .ok (.iload_n 1, 1) := by decide +kernel
theorem d100_30 : decode (pg_code 100) 30 = .ok (.imul, 1) := by decide +kernel
theorem d100_31 : decode (pg_code 100) 31 = .ok (.iload_n 3, 1) := by decide +kernel
theorem d100_32 : decode (pg_code 100) 32 = .ok (.iadd, 1) := by decide +kernel
theorem d100_33 : decode (pg_code 100) 33 = .ok (.baload, 1) := by decide +kernel
theorem d100_34 : decode (pg_code 100) 34 = .ok (.ifCond .eq 92, 3) := by decide +kernel
theorem d100_37 : decode (pg_code 100) 37 = .ok (.aload_n 0, 1) := by decide +kernel
theorem d100_38 : decode (pg_code 100) 38 = .ok (.getfield 13, 3) := by decide +kernel
theorem d100_41 : decode (pg_code 100) 41 = .ok (.bipush 12, 2) := by decide +kernel
theorem d100_43 : decode (pg_code 100) 43 = .ok (.aload_n 0, 1) := by decide +kernel
theorem d100_44 : decode (pg_code 100) 44 = .ok (.getfield 129, 3) := by decide +kernel
theorem d100_47 : decode (pg_code 100) 47 = .ok (.imul, 1) := by decide +kernel
theorem d100_48 : decode (pg_code 100) 48 = .ok (.iload_n 3, 1) := by decide +kernel
theorem d100_49 : decode (pg_code 100) 49 = .ok (.iadd, 1) := by decide +kernel
theorem d100_50 : decode (pg_code 100) 50 = .ok (.iaload, 1) := by decide +kernel
theorem d100_51 : decode (pg_code 100) 51 = .ok (.istore 4, 2) := by decide +kernel
theorem d100_53 : decode (pg_code 100) 53 = .ok (.iconst 0, 1) := by decide +kernel
theorem d100_54 : decode (pg_code 100) 54 = .ok (.istore 5, 2) := by decide +kernel
theorem d100_56 : decode (pg_code 100) 56 = .ok (.iload 4, 2) := by decide +kernel
theorem d100_58 : decode (pg_code 100) 58 = .ok (.iconst 1, 1) := by decide +kernel
theorem d100_59 : decode (pg_code 100) 59 = .ok (.iadd, 1) := by decide +kernel
theorem d100_60 : decode (pg_code 100) 60 = .ok (.istore 6, 2) := by decide +kernel
theorem d100_62 : decode (pg_code 100) 62 = .ok (.iload 6, 2) := by decide +kernel
theorem d100_64 : decode (pg_code 100) 64 = .ok (.iload_n 3, 1) := by decide +kernel
theorem d100_65 : decode (pg_code 100) 65 = .ok (.if_icmp .ge 39, 3) := by decide +kernel
theorem d100_68 : decode (pg_code 100) 68 = .ok (.iload 5, 2) := by decide +kernel
theorem d100_70 : decode (pg_code 100) 70 = .ok (.aload_n 0, 1) := by decide +kernel
theorem d100_71 : decode (pg_code 100) 71 = .ok (.getfield 13, 3) := by decide +kernel
theorem d100_74 : decode (pg_code 100) 74 = .ok (.bipush 12, 2) := by decide +kernel
theorem d100_76 : decode (pg_code 100) 76 = .ok (.aload_n 0, 1) := by decide +kernel
theorem d100_77 : decode (pg_code 100) 77 = .ok (.getfield 129, 3) := by decide +kernel
theorem d100_80 : decode (pg_code 100) 80 = .ok (.imul, 1) := by decide +kernel
theorem d100_81 : decode (pg_code 100) 81 = .ok (.iload 6, 2) := by decide +kernel
theorem d100_83 : decode (pg_code 100) 83 = .ok (.iadd, 1) := by decide +kernel
theorem d100_84 : decode (pg_code 100) 84 = .ok (.iaload, 1) := by decide +kernel
theorem d100_85 : decode (pg_code 100) 85 = .ok (.iload 4, 2) := by decide +kernel
theorem d100_87 : decode (pg_code 100) 87 = .ok (.if_icmp .ne 7, 3) := by decide +kernel
theorem d100_90 : decode (pg_code 100) 90 = .ok (.iconst 1, 1) := by decide +kernel
theorem d100_91 : decode (pg_code 100) 91 = .ok (.goto 4, 3) := by decide +kernel
theorem d100_94 : decode (pg_code 100) 94 = .ok (.iconst 0, 1) := by decide +kernel
theorem d100_95 : decode (pg_code 100) 95 = .ok (.iadd, 1) := by decide +kernel
theorem d100_96 : decode (pg_code 100) 96 = .ok (.istore 5, 2) := by decide +kernel
theorem d100_98 : decode (pg_code 100) 98 = .ok (.iinc 6 1, 3) := by decide +kernel
theorem d100_101 : decode (pg_code 100) 101 = .ok (.goto (-39), 3) := by decide +kernel
theorem d100_104 : decode (pg_code 100) 104 = .ok (.aload_n 0, 1) := by decide +kernel
theorem d100_105 : decode (pg_code 100) 105 = .ok (.iload_n 3, 1) := by decide +kernel
theorem d100_106 : decode (pg_code 100) 106 = .ok (.aload_n 0, 1) := by decide +kernel
theorem d100_107 : decode (pg_code 100) 107 = .ok (.aload_n 0, 1) := by decide +kernel
theorem d100_108 : decode (pg_code 100) 108 = .ok (.getfield 141, 3) := by decide +kernel
theorem d100_111 : decode (pg_code 100) 111 = .ok (.aload_n 0, 1) := by decide +kernel
theorem d100_112 : decode (pg_code 100) 112 = .ok (.getfield 22, 3) := by decide +kernel
theorem d100_115 : decode (pg_code 100) 115 = .ok (.iload 4, 2) := by decide +kernel
theorem d100_117 : decode (pg_code 100) 117 = .ok (.iaload, 1) := by decide +kernel
theorem d100_118 : decode (pg_code 100) 118 = .ok (.iload 5, 2) := by decide +kernel
theorem d100_120 : decode (pg_code 100) 120 = .ok (.invokevirtual 121, 3) := by decide +kernel
theorem d100_123 : decode (pg_code 100) 123 = .ok (.invokevirtual 147, 3) := by decide +kernel
theorem d100_126 : decode (pg_code 100) 126 = .ok (.iinc 3 1, 3) := by decide +kernel
theorem d100_129 : decode (pg_code 100) 129 = .ok (.goto (-119), 3) := by decide +kernel
theorem d100_132 : decode (pg_code 100) 132 = .ok (.return_, 1) := by decide +kernel
theorem e100 {b1 b2 b3 : Value} : am_Call L xs d 100 [b1, b2, b3] σ Q = am_Rn L xs d 100 0 [b1, b2, b3, .retAddr 0, .retAddr 0, .retAddr 0, .retAddr 0] [] σ Q := rfl
theorem r100_0  : am_Rn L xs d 100 0 ls st σ Q = am_la ls 0 (fun x => am_Rn L xs d 100 1 ls (x :: st) σ Q) := am_r_aload_n d100_0
theorem r100_1  : am_Rn L xs d 100 1 ls st σ Q = am_li ls 1 (fun x => am_Rn L xs d 100 2 ls (.int x :: st) σ Q) := am_r_iload_n d100_1
theorem r100_2  : am_Rn L xs d 100 2 ls st σ Q = am_li ls 2 (fun x => am_Rn L xs d 100 3 ls (.int x :: st) σ Q) := am_r_iload_n d100_2
theorem r100_3 {a1 a2 : Value} {p : Nat} : am_Rn L xs (d + 1) 100 3 ls (a2 :: a1 :: .ref p :: st) σ Q = ((am_oc σ p = 6 ∧ st.length ≤ 4 ∧ am_ok a1 = true ∧ am_ok a2 = true) ∧ am_Call L xs d 101 [.ref p, a1, a2] σ (fun r σ1 => am_Rn L xs (d + 1) 100 6 ls (r.toList ++ st) σ1 Q)) := am_R_virtual2 d100_3 rfl ⟨by decide, rfl⟩ rfl rfl (by decide)
theorem r100_6  : am_Rn L xs d 100 6 ls st σ Q = am_li ls 1 (fun x => am_Rn L xs d 100 7 ls (.int x :: st) σ Q) := am_r_iload_n d100_6
theorem r100_7  : am_Rn L xs d 100 7 ls st σ Q = am_Rn L xs d 100 8 ls (.int 1 :: st) σ Q := am_r_iconst d100_7 (by decide)
theorem r100_8 {a b : Int32} : am_Rn L xs d 100 8 ls (.int b :: .int a :: st) σ Q = am_Rn L xs d 100 9 ls (.int (a + b) :: st) σ Q := am_r_iadd d100_8
theorem r100_9 {x : Int32} : am_Rn L xs d 100 9 ls (.int x :: st) σ Q = (3 < ls.length ∧ am_Rn L xs d 100 10 (ls.set 3 (.int x)) st σ Q) := am_r_istore_n d100_9
theorem r100_10  : am_Rn L xs d 100 10 ls st σ Q = am_li ls 3 (fun x => am_Rn L xs d 100 11 ls (.int x :: st) σ Q) := am_r_iload_n d100_10
theorem r100_11  : am_Rn L xs d 100 11 ls st σ Q = am_la ls 0 (fun x => am_Rn L xs d 100 12 ls (x :: st) σ Q) := am_r_aload_n d100_11
theorem r100_12 {p : Nat} : am_Rn L xs d 100 12 ls (.ref p :: st) σ Q = am_fd σ p 6 0 (fun v => am_Rn L xs d 100 15 ls (v :: st) σ Q) := am_r_getfield d100_12 rfl
theorem r100_15  : am_Rn L xs d 100 15 ls st σ Q = am_la ls 0 (fun x => am_Rn L xs d 100 16 ls (x :: st) σ Q) := am_r_aload_n d100_15
theorem r100_16 {p : Nat} : am_Rn L xs d 100 16 ls (.ref p :: st) σ Q = am_fd σ p 6 16 (fun v => am_Rn L xs d 100 19 ls (v :: st) σ Q) := am_r_getfield d100_16 rfl
theorem r100_19 {p : Nat} {i : Int32} : am_Rn L xs d 100 19 ls (.int i :: .ref p :: st) σ Q = am_ai 0 σ p i (fun x => am_Rn L xs d 100 20 ls (.int x :: st) σ Q) := am_r_iaload d100_19
theorem r100_20 {a b : Int32} : am_Rn L xs d 100 20 ls (.int b :: .int a :: st) σ Q = if b ≤ a then am_Rn L xs d 100 132 ls st σ Q else am_Rn L xs d 100 23 ls st σ Q := (am_r_icmp (t := 132) d100_20 (by decide)).trans (am_ite _ _ trivial (by simp only [am_cond, decide_eq_true_eq]))
theorem r100_23  : am_Rn L xs d 100 23 ls st σ Q = am_la ls 0 (fun x => am_Rn L xs d 100 24 ls (x :: st) σ Q) := am_r_aload_n d100_23
theorem r100_24 {p : Nat} : am_Rn L xs d 100 24 ls (.ref p :: st) σ Q = am_fd σ p 6 7 (fun v => am_Rn L xs d 100 27 ls (v :: st) σ Q) := am_r_getfield d100_24 rfl
theorem r100_27  : am_Rn L xs d 100 27 ls st σ Q = am_Rn L xs d 100 29 ls (.int 12 :: st) σ Q := am_r_bipush d100_27 (by decide)
theorem r100_29  : am_Rn L xs d 100 29 ls st σ Q = am_li ls 1 (fun x => am_Rn L xs d 100 30 ls (.int x :: st) σ Q) := am_r_iload_n d100_29
theorem r100_30 {a b : Int32} : am_Rn L xs d 100 30 ls (.int b :: .int a :: st) σ Q = am_Rn L xs d 100 31 ls (.int (a * b) :: st) σ Q := am_r_imul d100_30
theorem r100_31  : am_Rn L xs d 100 31 ls st σ Q = am_li ls 3 (fun x => am_Rn L xs d 100 32 ls (.int x :: st) σ Q) := am_r_iload_n d100_31
theorem r100_32 {a b : Int32} : am_Rn L xs d 100 32 ls (.int b :: .int a :: st) σ Q = am_Rn L xs d 100 33 ls (.int (a + b) :: st) σ Q := am_r_iadd d100_32
theorem r100_33 {p : Nat} {i : Int32} : am_Rn L xs d 100 33 ls (.int i :: .ref p :: st) σ Q = am_ai 1 σ p i (fun x => am_Rn L xs d 100 34 ls (.int x :: st) σ Q) := am_r_baload d100_33
theorem r100_34 {a : Int32} : am_Rn L xs d 100 34 ls (.int a :: st) σ Q = if a = 0 then am_Rn L xs d 100 126 ls st σ Q else am_Rn L xs d 100 37 ls st σ Q := (am_r_if (t := 126) d100_34 (by decide)).trans (am_ite _ _ trivial (by simp only [am_cond, decide_eq_true_eq]))
theorem r100_37  : am_Rn L xs d 100 37 ls st σ Q = am_la ls 0 (fun x => am_Rn L xs d 100 38 ls (x :: st) σ Q) := am_r_aload_n d100_37
theorem r100_38 {p : Nat} : am_Rn L xs d 100 38 ls (.ref p :: st) σ Q = am_fd σ p 6 1 (fun v => am_Rn L xs d 100 41 ls (v :: st) σ Q) := am_r_getfield d100_38 rfl
theorem r100_41  : am_Rn L xs d 100 41 ls st σ Q = am_Rn L xs d 100 43 ls (.int 12 :: st) σ Q := am_r_bipush d100_41 (by decide)
theorem r100_43  : am_Rn L xs d 100 43 ls st σ Q = am_la ls 0 (fun x => am_Rn L xs d 100 44 ls (x :: st) σ Q) := am_r_aload_n d100_43
theorem r100_44 {p : Nat} : am_Rn L xs d 100 44 ls (.ref p :: st) σ Q = am_fd σ p 6 16 (fun v => am_Rn L xs d 100 47 ls (v :: st) σ Q) := am_r_getfield d100_44 rfl
theorem r100_47 {a b : Int32} : am_Rn L xs d 100 47 ls (.int b :: .int a :: st) σ Q = am_Rn L xs d 100 48 ls (.int (a * b) :: st) σ Q := am_r_imul d100_47
theorem r100_48  : am_Rn L xs d 100 48 ls st σ Q = am_li ls 3 (fun x => am_Rn L xs d 100 49 ls (.int x :: st) σ Q) := am_r_iload_n d100_48
theorem r100_49 {a b : Int32} : am_Rn L xs d 100 49 ls (.int b :: .int a :: st) σ Q = am_Rn L xs d 100 50 ls (.int (a + b) :: st) σ Q := am_r_iadd d100_49
theorem r100_50 {p : Nat} {i : Int32} : am_Rn L xs d 100 50 ls (.int i :: .ref p :: st) σ Q = am_ai 0 σ p i (fun x => am_Rn L xs d 100 51 ls (.int x :: st) σ Q) := am_r_iaload d100_50
theorem r100_51 {x : Int32} : am_Rn L xs d 100 51 ls (.int x :: st) σ Q = (4 < ls.length ∧ am_Rn L xs d 100 53 (ls.set 4 (.int x)) st σ Q) := am_r_istore d100_51
theorem r100_53  : am_Rn L xs d 100 53 ls st σ Q = am_Rn L xs d 100 54 ls (.int 0 :: st) σ Q := am_r_iconst d100_53 (by decide)
theorem r100_54 {x : Int32} : am_Rn L xs d 100 54 ls (.int x :: st) σ Q = (5 < ls.length ∧ am_Rn L xs d 100 56 (ls.set 5 (.int x)) st σ Q) := am_r_istore d100_54
theorem r100_56  : am_Rn L xs d 100 56 ls st σ Q = am_li ls 4 (fun x => am_Rn L xs d 100 58 ls (.int x :: st) σ Q) := am_r_iload d100_56
theorem r100_58  : am_Rn L xs d 100 58 ls st σ Q = am_Rn L xs d 100 59 ls (.int 1 :: st) σ Q := am_r_iconst d100_58 (by decide)
theorem r100_59 {a b : Int32} : am_Rn L xs d 100 59 ls (.int b :: .int a :: st) σ Q = am_Rn L xs d 100 60 ls (.int (a + b) :: st) σ Q := am_r_iadd d100_59
theorem r100_60 {x : Int32} : am_Rn L xs d 100 60 ls (.int x :: st) σ Q = (6 < ls.length ∧ am_Rn L xs d 100 62 (ls.set 6 (.int x)) st σ Q) := am_r_istore d100_60
theorem r100_62  : am_Rn L xs d 100 62 ls st σ Q = am_li ls 6 (fun x => am_Rn L xs d 100 64 ls (.int x :: st) σ Q) := am_r_iload d100_62
theorem r100_64  : am_Rn L xs d 100 64 ls st σ Q = am_li ls 3 (fun x => am_Rn L xs d 100 65 ls (.int x :: st) σ Q) := am_r_iload_n d100_64
theorem r100_65 {a b : Int32} : am_Rn L xs d 100 65 ls (.int b :: .int a :: st) σ Q = if b ≤ a then am_Rn L xs d 100 104 ls st σ Q else am_Rn L xs d 100 68 ls st σ Q := (am_r_icmp (t := 104) d100_65 (by decide)).trans (am_ite _ _ trivial (by simp only [am_cond, decide_eq_true_eq]))
theorem r100_68  : am_Rn L xs d 100 68 ls st σ Q = am_li ls 5 (fun x => am_Rn L xs d 100 70 ls (.int x :: st) σ Q) := am_r_iload d100_68
theorem r100_70  : am_Rn L xs d 100 70 ls st σ Q = am_la ls 0 (fun x => am_Rn L xs d 100 71 ls (x :: st) σ Q) := am_r_aload_n d100_70
theorem r100_71 {p : Nat} : am_Rn L xs d 100 71 ls (.ref p :: st) σ Q = am_fd σ p 6 1 (fun v => am_Rn L xs d 100 74 ls (v :: st) σ Q) := am_r_getfield d100_71 rfl
theorem r100_74  : am_Rn L xs d 100 74 ls st σ Q = am_Rn L xs d 100 76 ls (.int 12 :: st) σ Q := am_r_bipush d100_74 (by decide)
theorem r100_76  : am_Rn L xs d 100 76 ls st σ Q = am_la ls 0 (fun x => am_Rn L xs d 100 77 ls (x :: st) σ Q) := am_r_aload_n d100_76
theorem r100_77 {p : Nat} : am_Rn L xs d 100 77 ls (.ref p :: st) σ Q = am_fd σ p 6 16 (fun v => am_Rn L xs d 100 80 ls (v :: st) σ Q) := am_r_getfield d100_77 rfl
theorem r100_80 {a b : Int32} : am_Rn L xs d 100 80 ls (.int b :: .int a :: st) σ Q = am_Rn L xs d 100 81 ls (.int (a * b) :: st) σ Q := am_r_imul d100_80
theorem r100_81  : am_Rn L xs d 100 81 ls st σ Q = am_li ls 6 (fun x => am_Rn L xs d 100 83 ls (.int x :: st) σ Q) := am_r_iload d100_81
theorem r100_83 {a b : Int32} : am_Rn L xs d 100 83 ls (.int b :: .int a :: st) σ Q = am_Rn L xs d 100 84 ls (.int (a + b) :: st) σ Q := am_r_iadd d100_83
theorem r100_84 {p : Nat} {i : Int32} : am_Rn L xs d 100 84 ls (.int i :: .ref p :: st) σ Q = am_ai 0 σ p i (fun x => am_Rn L xs d 100 85 ls (.int x :: st) σ Q) := am_r_iaload d100_84
theorem r100_85  : am_Rn L xs d 100 85 ls st σ Q = am_li ls 4 (fun x => am_Rn L xs d 100 87 ls (.int x :: st) σ Q) := am_r_iload d100_85
theorem r100_87 {a b : Int32} : am_Rn L xs d 100 87 ls (.int b :: .int a :: st) σ Q = if ¬ a = b then am_Rn L xs d 100 94 ls st σ Q else am_Rn L xs d 100 90 ls st σ Q := (am_r_icmp (t := 94) d100_87 (by decide)).trans (am_ite _ _ trivial (by simp only [am_cond, decide_eq_true_eq]))
theorem r100_90  : am_Rn L xs d 100 90 ls st σ Q = am_Rn L xs d 100 91 ls (.int 1 :: st) σ Q := am_r_iconst d100_90 (by decide)
theorem r100_91  : am_Rn L xs d 100 91 ls st σ Q = am_Rn L xs d 100 95 ls st σ Q := am_r_goto d100_91 (by decide)
theorem r100_94  : am_Rn L xs d 100 94 ls st σ Q = am_Rn L xs d 100 95 ls (.int 0 :: st) σ Q := am_r_iconst d100_94 (by decide)
theorem r100_95 {a b : Int32} : am_Rn L xs d 100 95 ls (.int b :: .int a :: st) σ Q = am_Rn L xs d 100 96 ls (.int (a + b) :: st) σ Q := am_r_iadd d100_95
theorem r100_96 {x : Int32} : am_Rn L xs d 100 96 ls (.int x :: st) σ Q = (5 < ls.length ∧ am_Rn L xs d 100 98 (ls.set 5 (.int x)) st σ Q) := am_r_istore d100_96
theorem r100_98  : am_Rn L xs d 100 98 ls st σ Q = am_li ls 6 (fun x => am_Rn L xs d 100 101 (ls.set 6 (.int (x + 1))) st σ Q) := am_r_iinc d100_98 (by decide)
theorem r100_101  : am_Rn L xs d 100 101 ls st σ Q = am_Rn L xs d 100 62 ls st σ Q := am_r_goto d100_101 (by decide)
theorem r100_104  : am_Rn L xs d 100 104 ls st σ Q = am_la ls 0 (fun x => am_Rn L xs d 100 105 ls (x :: st) σ Q) := am_r_aload_n d100_104
theorem r100_105  : am_Rn L xs d 100 105 ls st σ Q = am_li ls 3 (fun x => am_Rn L xs d 100 106 ls (.int x :: st) σ Q) := am_r_iload_n d100_105
theorem r100_106  : am_Rn L xs d 100 106 ls st σ Q = am_la ls 0 (fun x => am_Rn L xs d 100 107 ls (x :: st) σ Q) := am_r_aload_n d100_106
theorem r100_107  : am_Rn L xs d 100 107 ls st σ Q = am_la ls 0 (fun x => am_Rn L xs d 100 108 ls (x :: st) σ Q) := am_r_aload_n d100_107
theorem r100_108 {p : Nat} : am_Rn L xs d 100 108 ls (.ref p :: st) σ Q = am_fd σ p 6 17 (fun v => am_Rn L xs d 100 111 ls (v :: st) σ Q) := am_r_getfield d100_108 rfl
theorem r100_111  : am_Rn L xs d 100 111 ls st σ Q = am_la ls 0 (fun x => am_Rn L xs d 100 112 ls (x :: st) σ Q) := am_r_aload_n d100_111
theorem r100_112 {p : Nat} : am_Rn L xs d 100 112 ls (.ref p :: st) σ Q = am_fd σ p 6 4 (fun v => am_Rn L xs d 100 115 ls (v :: st) σ Q) := am_r_getfield d100_112 rfl
theorem r100_115  : am_Rn L xs d 100 115 ls st σ Q = am_li ls 4 (fun x => am_Rn L xs d 100 117 ls (.int x :: st) σ Q) := am_r_iload d100_115
theorem r100_117 {p : Nat} {i : Int32} : am_Rn L xs d 100 117 ls (.int i :: .ref p :: st) σ Q = am_ai 0 σ p i (fun x => am_Rn L xs d 100 118 ls (.int x :: st) σ Q) := am_r_iaload d100_117
theorem r100_118  : am_Rn L xs d 100 118 ls st σ Q = am_li ls 5 (fun x => am_Rn L xs d 100 120 ls (.int x :: st) σ Q) := am_r_iload d100_118
theorem r100_120 {a1 a2 a3 : Value} {p : Nat} : am_Rn L xs (d + 1) 100 120 ls (a3 :: a2 :: a1 :: .ref p :: st) σ Q = ((am_oc σ p = 6 ∧ st.length ≤ 4 ∧ am_ok a1 = true ∧ am_ok a2 = true ∧ am_ok a3 = true) ∧ am_Call L xs d 92 [.ref p, a1, a2, a3] σ (fun r σ1 => am_Rn L xs (d + 1) 100 123 ls (r.toList ++ st) σ1 Q)) := am_R_virtual3 d100_120 rfl ⟨by decide, rfl⟩ rfl rfl (by decide)
theorem r100_123 {a1 a2 : Value} {p : Nat} : am_Rn L xs (d + 1) 100 123 ls (a2 :: a1 :: .ref p :: st) σ Q = ((am_oc σ p = 6 ∧ st.length ≤ 4 ∧ am_ok a1 = true ∧ am_ok a2 = true) ∧ am_Call L xs d 101 [.ref p, a1, a2] σ (fun r σ1 => am_Rn L xs (d + 1) 100 126 ls (r.toList ++ st) σ1 Q)) := am_R_virtual2 d100_123 rfl ⟨by decide, rfl⟩ rfl rfl (by decide)
theorem r100_126  : am_Rn L xs d 100 126 ls st σ Q = am_li ls 3 (fun x => am_Rn L xs d 100 129 (ls.set 3 (.int (x + 1))) st σ Q) := am_r_iinc d100_126 (by decide)
theorem r100_129  : am_Rn L xs d 100 129 ls st σ Q = am_Rn L xs d 100 10 ls st σ Q := am_r_goto d100_129 (by decide)
theorem r100_132  : am_Rn L xs d 100 132 ls [] σ Q = Q none σ := am_r_return d100_132 rfl
theorem d101_0 : decode (pg_code 101) 0 = .ok (.aload_n 0, 1) := by decide +kernel
theorem d101_1 : decode (pg_code 101) 1 = .ok (.getfield 22, 3) := by decide +kernel
theorem d101_4 : decode (pg_code 101) 4 = .ok (.iload_n 1, 1) := by decide +kernel
theorem d101_5 : decode (pg_code 101) 5 = .ok (.iload_n 2, 1) := by decide +kernel
theorem d101_6 : decode (pg_code 101) 6 = .ok (.iastore, 1) := by decide +kernel
theorem d101_7 : decode (pg_code 101) 7 = .ok (.aload_n 0, 1) := by decide +kernel
theorem d101_8 : decode (pg_code 101) 8 = .ok (.getfield 25, 3) := by decide +kernel
theorem d101_11 : decode (pg_code 101) 11 = .ok (.iload_n 2, 1) := by decide +kernel
theorem d101_12 : decode (pg_code 101) 12 = .ok (.iload_n 1, 1) := by decide +kernel
theorem d101_13 : decode (pg_code 101) 13 = .ok (.iastore, 1) := by decide +kernel
theorem d101_14 : decode (pg_code 101) 14 = .ok (.return_, 1) := by decide +kernel
theorem e101 {b1 b2 b3 : Value} : am_Call L xs d 101 [b1, b2, b3] σ Q = am_Rn L xs d 101 0 [b1, b2, b3] [] σ Q := rfl
theorem r101_0  : am_Rn L xs d 101 0 ls st σ Q = am_la ls 0 (fun x => am_Rn L xs d 101 1 ls (x :: st) σ Q) := am_r_aload_n d101_0
theorem r101_1 {p : Nat} : am_Rn L xs d 101 1 ls (.ref p :: st) σ Q = am_fd σ p 6 4 (fun v => am_Rn L xs d 101 4 ls (v :: st) σ Q) := am_r_getfield d101_1 rfl
theorem r101_4  : am_Rn L xs d 101 4 ls st σ Q = am_li ls 1 (fun x => am_Rn L xs d 101 5 ls (.int x :: st) σ Q) := am_r_iload_n d101_4
theorem r101_5  : am_Rn L xs d 101 5 ls st σ Q = am_li ls 2 (fun x => am_Rn L xs d 101 6 ls (.int x :: st) σ Q) := am_r_iload_n d101_5
theorem r101_6 {p : Nat} {i x : Int32} : am_Rn L xs d 101 6 ls (.int x :: .int i :: .ref p :: st) σ Q = am_wi 0 σ p i x (fun σ1 => am_Rn L xs d 101 7 ls st σ1 Q) := am_r_iastore d101_6
theorem r101_7  : am_Rn L xs d 101 7 ls st σ Q = am_la ls 0 (fun x => am_Rn L xs d 101 8 ls (x :: st) σ Q) := am_r_aload_n d101_7
theorem r101_8 {p : Nat} : am_Rn L xs d 101 8 ls (.ref p :: st) σ Q = am_fd σ p 6 5 (fun v => am_Rn L xs d 101 11 ls (v :: st) σ Q) := am_r_getfield d101_8 rfl
theorem r101_11  : am_Rn L xs d 101 11 ls st σ Q = am_li ls 2 (fun x => am_Rn L xs d 101 12 ls (.int x :: st) σ Q) := am_r_iload_n d101_11
theorem r101_12  : am_Rn L xs d 101 12 ls st σ Q = am_li ls 1 (fun x => am_Rn L xs d 101 13 ls (.int x :: st) σ Q) := am_r_iload_n d101_12
theorem r101_13 {p : Nat} {i x : Int32} : am_Rn L xs d 101 13 ls (.int x :: .int i :: .ref p :: st) σ Q = am_wi 0 σ p i x (fun σ1 => am_Rn L xs d 101 14 ls st σ1 Q) := am_r_iastore d101_13
theorem r101_14  : am_Rn L xs d 101 14 ls [] σ Q = Q none σ := am_r_return d101_14 rfl
theorem d102_0 : decode (pg_code 102) 0 = .ok (.iconst (-1), 1) := by decide +kernel
theorem d102_1 : decode (pg_code 102) 1 = .ok (.istore_n 2, 1) := by decide +kernel
theorem d102_2 : decode (pg_code 102) 2 = .ok (.iconst 0, 1) := by decide +kernel
theorem d102_3 : decode (pg_code 102) 3 = .ok (.istore_n 3, 1) := by decide +kernel
theorem d102_4 : decode (pg_code 102) 4 = .ok (.iconst 1, 1) := by decide +kernel
theorem d102_5 : decode (pg_code 102) 5 = .ok (.istore 4, 2) := by decide +kernel
theorem d102_7 : decode (pg_code 102) 7 = .ok (.iconst 0, 1) := by decide +kernel
theorem d102_8 : decode (pg_code 102) 8 = .ok (.istore 5, 2) := by decide +kernel
theorem d102_10 : decode (pg_code 102) 10 = .ok (.iload 5, 2) := by decide +kernel
theorem d102_12 : decode (pg_code 102) 12 = .ok (.aload_n 0, 1) := by decide +kernel
theorem d102_13 : decode (pg_code 102) 13 = .ok (.getfield 7, 3) := by decide +kernel
theorem d102_16 : decode (pg_code 102) 16 = .ok (.aload_n 0, 1) := by decide +kernel
theorem d102_17 : decode (pg_code 102) 17 = .ok (.getfield 141, 3) := by decide +kernel
theorem d102_20 : decode (pg_code 102) 20 = .ok (.iaload, 1) := by decide +kernel
theorem d102_21 : decode (pg_code 102) 21 = .ok (.if_icmp .ge 112, 3) := by decide +kernel
theorem d102_24 : decode (pg_code 102) 24 = .ok (.aload_n 0, 1) := by decide +kernel
theorem d102_25 : decode (pg_code 102) 25 = .ok (.getfield 25, 3) := by decide +kernel
theorem d102_28 : decode (pg_code 102) 28 = .ok (.iload 5, 2) := by decide +kernel
theorem d102_30 : decode (pg_code 102) 30 = .ok (.iaload, 1) := by decide +kernel
theorem d102_31 : decode (pg_code 102) 31 = .ok (.ifCond .ge 96, 3) := by decide +kernel
theorem d102_34 : decode (pg_code 102) 34 = .ok (.aload_n 0, 1) := by decide +kernel
theorem d102_35 : decode (pg_code 102) 35 = .ok (.getfield 16, 3) := by decide +kernel
theorem d102_38 : decode (pg_code 102) 38 = .ok (.bipush 12, 2) := by decide +kernel
theorem d102_40 : decode (pg_code 102) 40 = .ok (.aload_n 0, 1) := by decide +kernel
theorem d102_41 : decode (pg_code 102) 41 = .ok (.getfield 141, 3) := by decide +kernel
theorem d102_44 : decode (pg_code 102) 44 = .ok (.imul, 1) := by decide +kernel
theorem d102_45 : decode (pg_code 102) 45 = .ok (.iload 5, 2) := by decide +kernel
theorem d102_47 : decode (pg_code 102) 47 = .ok (.iadd, 1) := by decide +kernel
theorem d102_48 : decode (pg_code 102) 48 = .ok (.iaload, 1) := by decide +kernel
theorem d102_49 : decode (pg_code 102) 49 = .ok (.aload_n 0, 1) := by decide +kernel
theorem d102_50 : decode (pg_code 102) 50 = .ok (.getfield 16, 3) := by decide +kernel
theorem d102_53 : decode (pg_code 102) 53 = .ok (.bipush 12, 2) := by decide +kernel
theorem d102_55 : decode (pg_code 102) 55 = .ok (.aload_n 0, 1) := by decide +kernel
theorem d102_56 : decode (pg_code 102) 56 = .ok (.getfield 129, 3) := by decide +kernel
theorem d102_59 : decode (pg_code 102) 59 = .ok (.imul, 1) := by decide +kernel
theorem d102_60 : decode (pg_code 102) 60 = .ok (.iload_n 1, 1) := by decide +kernel
theorem d102_61 : decode (pg_code 102) 61 = .ok (.iadd, 1) := by decide +kernel
theorem d102_62 : decode (pg_code 102) 62 = .ok (.iaload, 1) := by decide +kernel
theorem d102_63 : decode (pg_code 102) 63 = .ok (.if_icmp .ne 64, 3) := by decide +kernel
theorem d102_66 : decode (pg_code 102) 66 = .ok (.aload_n 0, 1) := by decide +kernel
theorem d102_67 : decode (pg_code 102) 67 = .ok (.iload_n 1, 1) := by decide +kernel
theorem d102_68 : decode (pg_code 102) 68 = .ok (.iload 5, 2) := by decide +kernel
theorem d102_70 : decode (pg_code 102) 70 = .ok (.invokevirtual 144, 3) := by decide +kernel
theorem d102_73 : decode (pg_code 102) 73 = .ok (.istore 6, 2) := by decide +kernel
theorem d102_75 : decode (pg_code 102) 75 = .ok (.aload_n 0, 1) := by decide +kernel
theorem d102_76 : decode (pg_code 102) 76 = .ok (.getfield 38, 3) := by decide +kernel
theorem d102_79 : decode (pg_code 102) 79 = .ok (.iload_n 1, 1) := by decide +kernel
theorem d102_80 : decode (pg_code 102) 80 = .ok (.iaload, 1) := by decide +kernel
theorem d102_81 : decode (pg_code 102) 81 = .ok (.aload_n 0, 1) := by decide +kernel
theorem d102_82 : decode (pg_code 102) 82 = .ok (.getfield 41, 3) := by decide +kernel
theorem d102_85 : decode (pg_code 102) 85 = .ok (.iload 5, 2) := by decide +kernel
theorem d102_87 : decode (pg_code 102) 87 = .ok (.iaload, 1) := by decide +kernel
theorem d102_88 : decode (pg_code 102) 88 = .ok (.iadd, 1) := by decide +kernel
theorem d102_89 : decode (pg_code 102) 89 = .ok (.istore 7, 2) := by decide +kernel
theorem d102_91 : decode (pg_code 102) 91 = .ok (.iload 6, 2) := by decide +kernel
theorem d102_93 : decode (pg_code 102) 93 = .ok (.ifCond .le 34, 3) := by decide +kernel
theorem d102_96 : decode (pg_code 102) 96 = .ok (.iconst 4, 1) := by decide +kernel
theorem d102_97 : decode (pg_code 102) 97 = .ok (.iload 6, 2) := by decide +kernel
theorem d102_99 : decode (pg_code 102) 99 = .ok (.imul, 1) := by decide +kernel
theorem d102_100 : decode (pg_code 102) 100 = .ok (.iload 7, 2) := by decide +kernel
theorem d102_102 : decode (pg_code 102) 102 = .ok (.if_icmp .lt 25, 3) := by decide +kernel
theorem d102_105 : decode (pg_code 102) 105 = .ok (.iload 6, 2) := by decide +kernel
theorem d102_107 : decode (pg_code 102) 107 = .ok (.iload 4, 2) := by decide +kernel
theorem d102_109 : decode (pg_code 102) 109 = .ok (.imul, 1) := by decide +kernel
theorem d102_110 : decode (pg_code 102) 110 = .ok (.iload_n 3, 1) := by decide +kernel
theorem d102_111 : decode (pg_code 102) 111 = .ok (.iload 7, 2) := by decide +kernel
theorem d102_113 : decode (pg_code 102) 113 = .ok (.imul, 1) := by decide +kernel
theorem d102_114 : decode (pg_code 102) 114 = .ok (.if_icmp .le 13, 3) := by decide +kernel
theorem d102_117 : decode (pg_code 102) 117 = .ok (.iload 5, 2) := by decide +kernel
theorem d102_119 : decode (pg_code 102) 119 = .ok (.istore_n 2, 1) := by decide +kernel
theorem d102_120 : decode (pg_code 102) 120 = .ok (.iload 6, 2) := by decide +kernel
theorem d102_122 : decode (pg_code 102) 122 = .ok (.istore_n 3, 1) := by decide +kernel
theorem d102_123 : decode (pg_code 102) 123 = .ok (.iload 7, 2) := by decide +kernel
theorem d102_125 : decode (pg_code 102) 125 = .ok (.istore 4, 2) := by decide +kernel
theorem d102_127 : decode (pg_code 102) 127 = .ok (.iinc 5 1, 3) := by decide +kernel
theorem d102_130 : decode (pg_code 102) 130 = .ok (.goto (-120), 3) := by decide +kernel
theorem d102_133 : decode (pg_code 102) 133 = .ok (.iload_n 2, 1) := by decide +kernel
theorem d102_134 : decode (pg_code 102) 134 = .ok (.ireturn, 1) := by decide +kernel
theorem e102 {b1 b2 : Value} : am_Call L xs d 102 [b1, b2] σ Q = am_Rn L xs d 102 0 [b1, b2, .retAddr 0, .retAddr 0, .retAddr 0, .retAddr 0, .retAddr 0, .retAddr 0] [] σ Q := rfl
theorem r102_0  : am_Rn L xs d 102 0 ls st σ Q = am_Rn L xs d 102 1 ls (.int (-1) :: st) σ Q := am_r_iconst d102_0 (by decide)
theorem r102_1 {x : Int32} : am_Rn L xs d 102 1 ls (.int x :: st) σ Q = (2 < ls.length ∧ am_Rn L xs d 102 2 (ls.set 2 (.int x)) st σ Q) := am_r_istore_n d102_1
theorem r102_2  : am_Rn L xs d 102 2 ls st σ Q = am_Rn L xs d 102 3 ls (.int 0 :: st) σ Q := am_r_iconst d102_2 (by decide)
theorem r102_3 {x : Int32} : am_Rn L xs d 102 3 ls (.int x :: st) σ Q = (3 < ls.length ∧ am_Rn L xs d 102 4 (ls.set 3 (.int x)) st σ Q) := am_r_istore_n d102_3
theorem r102_4  : am_Rn L xs d 102 4 ls st σ Q = am_Rn L xs d 102 5 ls (.int 1 :: st) σ Q := am_r_iconst d102_4 (by decide)
theorem r102_5 {x : Int32} : am_Rn L xs d 102 5 ls (.int x :: st) σ Q = (4 < ls.length ∧ am_Rn L xs d 102 7 (ls.set 4 (.int x)) st σ Q) := am_r_istore d102_5
theorem r102_7  : am_Rn L xs d 102 7 ls st σ Q = am_Rn L xs d 102 8 ls (.int 0 :: st) σ Q := am_r_iconst d102_7 (by decide)
theorem r102_8 {x : Int32} : am_Rn L xs d 102 8 ls (.int x :: st) σ Q = (5 < ls.length ∧ am_Rn L xs d 102 10 (ls.set 5 (.int x)) st σ Q) := am_r_istore d102_8
theorem r102_10  : am_Rn L xs d 102 10 ls st σ Q = am_li ls 5 (fun x => am_Rn L xs d 102 12 ls (.int x :: st) σ Q) := am_r_iload d102_10
theorem r102_12  : am_Rn L xs d 102 12 ls st σ Q = am_la ls 0 (fun x => am_Rn L xs d 102 13 ls (x :: st) σ Q) := am_r_aload_n d102_12
theorem r102_13 {p : Nat} : am_Rn L xs d 102 13 ls (.ref p :: st) σ Q = am_fd σ p 6 0 (fun v => am_Rn L xs d 102 16 ls (v :: st) σ Q) := am_r_getfield d102_13 rfl
theorem r102_16  : am_Rn L xs d 102 16 ls st σ Q = am_la ls 0 (fun x => am_Rn L xs d 102 17 ls (x :: st) σ Q) := am_r_aload_n d102_16
theorem r102_17 {p : Nat} : am_Rn L xs d 102 17 ls (.ref p :: st) σ Q = am_fd σ p 6 17 (fun v => am_Rn L xs d 102 20 ls (v :: st) σ Q) := am_r_getfield d102_17 rfl
theorem r102_20 {p : Nat} {i : Int32} : am_Rn L xs d 102 20 ls (.int i :: .ref p :: st) σ Q = am_ai 0 σ p i (fun x => am_Rn L xs d 102 21 ls (.int x :: st) σ Q) := am_r_iaload d102_20
theorem r102_21 {a b : Int32} : am_Rn L xs d 102 21 ls (.int b :: .int a :: st) σ Q = if b ≤ a then am_Rn L xs d 102 133 ls st σ Q else am_Rn L xs d 102 24 ls st σ Q := (am_r_icmp (t := 133) d102_21 (by decide)).trans (am_ite _ _ trivial (by simp only [am_cond, decide_eq_true_eq]))
theorem r102_24  : am_Rn L xs d 102 24 ls st σ Q = am_la ls 0 (fun x => am_Rn L xs d 102 25 ls (x :: st) σ Q) := am_r_aload_n d102_24
theorem r102_25 {p : Nat} : am_Rn L xs d 102 25 ls (.ref p :: st) σ Q = am_fd σ p 6 5 (fun v => am_Rn L xs d 102 28 ls (v :: st) σ Q) := am_r_getfield d102_25 rfl
theorem r102_28  : am_Rn L xs d 102 28 ls st σ Q = am_li ls 5 (fun x => am_Rn L xs d 102 30 ls (.int x :: st) σ Q) := am_r_iload d102_28
theorem r102_30 {p : Nat} {i : Int32} : am_Rn L xs d 102 30 ls (.int i :: .ref p :: st) σ Q = am_ai 0 σ p i (fun x => am_Rn L xs d 102 31 ls (.int x :: st) σ Q) := am_r_iaload d102_30
theorem r102_31 {a : Int32} : am_Rn L xs d 102 31 ls (.int a :: st) σ Q = if 0 ≤ a then am_Rn L xs d 102 127 ls st σ Q else am_Rn L xs d 102 34 ls st σ Q := (am_r_if (t := 127) d102_31 (by decide)).trans (am_ite _ _ trivial (by simp only [am_cond, decide_eq_true_eq]))
theorem r102_34  : am_Rn L xs d 102 34 ls st σ Q = am_la ls 0 (fun x => am_Rn L xs d 102 35 ls (x :: st) σ Q) := am_r_aload_n d102_34
theorem r102_35 {p : Nat} : am_Rn L xs d 102 35 ls (.ref p :: st) σ Q = am_fd σ p 6 2 (fun v => am_Rn L xs d 102 38 ls (v :: st) σ Q) := am_r_getfield d102_35 rfl
theorem r102_38  : am_Rn L xs d 102 38 ls st σ Q = am_Rn L xs d 102 40 ls (.int 12 :: st) σ Q := am_r_bipush d102_38 (by decide)
theorem r102_40  : am_Rn L xs d 102 40 ls st σ Q = am_la ls 0 (fun x => am_Rn L xs d 102 41 ls (x :: st) σ Q) := am_r_aload_n d102_40
theorem r102_41 {p : Nat} : am_Rn L xs d 102 41 ls (.ref p :: st) σ Q = am_fd σ p 6 17 (fun v => am_Rn L xs d 102 44 ls (v :: st) σ Q) := am_r_getfield d102_41 rfl
theorem r102_44 {a b : Int32} : am_Rn L xs d 102 44 ls (.int b :: .int a :: st) σ Q = am_Rn L xs d 102 45 ls (.int (a * b) :: st) σ Q := am_r_imul d102_44
theorem r102_45  : am_Rn L xs d 102 45 ls st σ Q = am_li ls 5 (fun x => am_Rn L xs d 102 47 ls (.int x :: st) σ Q) := am_r_iload d102_45
theorem r102_47 {a b : Int32} : am_Rn L xs d 102 47 ls (.int b :: .int a :: st) σ Q = am_Rn L xs d 102 48 ls (.int (a + b) :: st) σ Q := am_r_iadd d102_47
theorem r102_48 {p : Nat} {i : Int32} : am_Rn L xs d 102 48 ls (.int i :: .ref p :: st) σ Q = am_ai 0 σ p i (fun x => am_Rn L xs d 102 49 ls (.int x :: st) σ Q) := am_r_iaload d102_48
theorem r102_49  : am_Rn L xs d 102 49 ls st σ Q = am_la ls 0 (fun x => am_Rn L xs d 102 50 ls (x :: st) σ Q) := am_r_aload_n d102_49
theorem r102_50 {p : Nat} : am_Rn L xs d 102 50 ls (.ref p :: st) σ Q = am_fd σ p 6 2 (fun v => am_Rn L xs d 102 53 ls (v :: st) σ Q) := am_r_getfield d102_50 rfl
theorem r102_53  : am_Rn L xs d 102 53 ls st σ Q = am_Rn L xs d 102 55 ls (.int 12 :: st) σ Q := am_r_bipush d102_53 (by decide)
theorem r102_55  : am_Rn L xs d 102 55 ls st σ Q = am_la ls 0 (fun x => am_Rn L xs d 102 56 ls (x :: st) σ Q) := am_r_aload_n d102_55
theorem r102_56 {p : Nat} : am_Rn L xs d 102 56 ls (.ref p :: st) σ Q = am_fd σ p 6 16 (fun v => am_Rn L xs d 102 59 ls (v :: st) σ Q) := am_r_getfield d102_56 rfl
theorem r102_59 {a b : Int32} : am_Rn L xs d 102 59 ls (.int b :: .int a :: st) σ Q = am_Rn L xs d 102 60 ls (.int (a * b) :: st) σ Q := am_r_imul d102_59
theorem r102_60  : am_Rn L xs d 102 60 ls st σ Q = am_li ls 1 (fun x => am_Rn L xs d 102 61 ls (.int x :: st) σ Q) := am_r_iload_n d102_60
theorem r102_61 {a b : Int32} : am_Rn L xs d 102 61 ls (.int b :: .int a :: st) σ Q = am_Rn L xs d 102 62 ls (.int (a + b) :: st) σ Q := am_r_iadd d102_61
theorem r102_62 {p : Nat} {i : Int32} : am_Rn L xs d 102 62 ls (.int i :: .ref p :: st) σ Q = am_ai 0 σ p i (fun x => am_Rn L xs d 102 63 ls (.int x :: st) σ Q) := am_r_iaload d102_62
theorem r102_63 {a b : Int32} : am_Rn L xs d 102 63 ls (.int b :: .int a :: st) σ Q = if ¬ a = b then am_Rn L xs d 102 127 ls st σ Q else am_Rn L xs d 102 66 ls st σ Q := (am_r_icmp (t := 127) d102_63 (by decide)).trans (am_ite _ _ trivial (by simp only [am_cond, decide_eq_true_eq]))
theorem r102_66  : am_Rn L xs d 102 66 ls st σ Q = am_la ls 0 (fun x => am_Rn L xs d 102 67 ls (x :: st) σ Q) := am_r_aload_n d102_66
theorem r102_67  : am_Rn L xs d 102 67 ls st σ Q = am_li ls 1 (fun x => am_Rn L xs d 102 68 ls (.int x :: st) σ Q) := am_r_iload_n d102_67
theorem r102_68  : am_Rn L xs d 102 68 ls st σ Q = am_li ls 5 (fun x => am_Rn L xs d 102 70 ls (.int x :: st) σ Q) := am_r_iload d102_68
theorem r102_70 {a1 a2 : Value} {p : Nat} : am_Rn L xs (d + 1) 102 70 ls (a2 :: a1 :: .ref p :: st) σ Q = ((am_oc σ p = 6 ∧ st.length ≤ 4 ∧ am_ok a1 = true ∧ am_ok a2 = true) ∧ am_Call L xs d 99 [.ref p, a1, a2] σ (fun r σ1 => am_Rn L xs (d + 1) 102 73 ls (r.toList ++ st) σ1 Q)) := am_R_virtual2 d102_70 rfl ⟨by decide, rfl⟩ rfl rfl (by decide)
theorem r102_73 {x : Int32} : am_Rn L xs d 102 73 ls (.int x :: st) σ Q = (6 < ls.length ∧ am_Rn L xs d 102 75 (ls.set 6 (.int x)) st σ Q) := am_r_istore d102_73
theorem r102_75  : am_Rn L xs d 102 75 ls st σ Q = am_la ls 0 (fun x => am_Rn L xs d 102 76 ls (x :: st) σ Q) := am_r_aload_n d102_75
theorem r102_76 {p : Nat} : am_Rn L xs d 102 76 ls (.ref p :: st) σ Q = am_fd σ p 6 9 (fun v => am_Rn L xs d 102 79 ls (v :: st) σ Q) := am_r_getfield d102_76 rfl
theorem r102_79  : am_Rn L xs d 102 79 ls st σ Q = am_li ls 1 (fun x => am_Rn L xs d 102 80 ls (.int x :: st) σ Q) := am_r_iload_n d102_79
theorem r102_80 {p : Nat} {i : Int32} : am_Rn L xs d 102 80 ls (.int i :: .ref p :: st) σ Q = am_ai 0 σ p i (fun x => am_Rn L xs d 102 81 ls (.int x :: st) σ Q) := am_r_iaload d102_80
theorem r102_81  : am_Rn L xs d 102 81 ls st σ Q = am_la ls 0 (fun x => am_Rn L xs d 102 82 ls (x :: st) σ Q) := am_r_aload_n d102_81
theorem r102_82 {p : Nat} : am_Rn L xs d 102 82 ls (.ref p :: st) σ Q = am_fd σ p 6 10 (fun v => am_Rn L xs d 102 85 ls (v :: st) σ Q) := am_r_getfield d102_82 rfl
theorem r102_85  : am_Rn L xs d 102 85 ls st σ Q = am_li ls 5 (fun x => am_Rn L xs d 102 87 ls (.int x :: st) σ Q) := am_r_iload d102_85
theorem r102_87 {p : Nat} {i : Int32} : am_Rn L xs d 102 87 ls (.int i :: .ref p :: st) σ Q = am_ai 0 σ p i (fun x => am_Rn L xs d 102 88 ls (.int x :: st) σ Q) := am_r_iaload d102_87
theorem r102_88 {a b : Int32} : am_Rn L xs d 102 88 ls (.int b :: .int a :: st) σ Q = am_Rn L xs d 102 89 ls (.int (a + b) :: st) σ Q := am_r_iadd d102_88
theorem r102_89 {x : Int32} : am_Rn L xs d 102 89 ls (.int x :: st) σ Q = (7 < ls.length ∧ am_Rn L xs d 102 91 (ls.set 7 (.int x)) st σ Q) := am_r_istore d102_89
theorem r102_91  : am_Rn L xs d 102 91 ls st σ Q = am_li ls 6 (fun x => am_Rn L xs d 102 93 ls (.int x :: st) σ Q) := am_r_iload d102_91
theorem r102_93 {a : Int32} : am_Rn L xs d 102 93 ls (.int a :: st) σ Q = if a ≤ 0 then am_Rn L xs d 102 127 ls st σ Q else am_Rn L xs d 102 96 ls st σ Q := (am_r_if (t := 127) d102_93 (by decide)).trans (am_ite _ _ trivial (by simp only [am_cond, decide_eq_true_eq]))
theorem r102_96  : am_Rn L xs d 102 96 ls st σ Q = am_Rn L xs d 102 97 ls (.int 4 :: st) σ Q := am_r_iconst d102_96 (by decide)
theorem r102_97  : am_Rn L xs d 102 97 ls st σ Q = am_li ls 6 (fun x => am_Rn L xs d 102 99 ls (.int x :: st) σ Q) := am_r_iload d102_97
theorem r102_99 {a b : Int32} : am_Rn L xs d 102 99 ls (.int b :: .int a :: st) σ Q = am_Rn L xs d 102 100 ls (.int (a * b) :: st) σ Q := am_r_imul d102_99
theorem r102_100  : am_Rn L xs d 102 100 ls st σ Q = am_li ls 7 (fun x => am_Rn L xs d 102 102 ls (.int x :: st) σ Q) := am_r_iload d102_100
theorem r102_102 {a b : Int32} : am_Rn L xs d 102 102 ls (.int b :: .int a :: st) σ Q = if a < b then am_Rn L xs d 102 127 ls st σ Q else am_Rn L xs d 102 105 ls st σ Q := (am_r_icmp (t := 127) d102_102 (by decide)).trans (am_ite _ _ trivial (by simp only [am_cond, decide_eq_true_eq]))
theorem r102_105  : am_Rn L xs d 102 105 ls st σ Q = am_li ls 6 (fun x => am_Rn L xs d 102 107 ls (.int x :: st) σ Q) := am_r_iload d102_105
theorem r102_107  : am_Rn L xs d 102 107 ls st σ Q = am_li ls 4 (fun x => am_Rn L xs d 102 109 ls (.int x :: st) σ Q) := am_r_iload d102_107
theorem r102_109 {a b : Int32} : am_Rn L xs d 102 109 ls (.int b :: .int a :: st) σ Q = am_Rn L xs d 102 110 ls (.int (a * b) :: st) σ Q := am_r_imul d102_109
theorem r102_110  : am_Rn L xs d 102 110 ls st σ Q = am_li ls 3 (fun x => am_Rn L xs d 102 111 ls (.int x :: st) σ Q) := am_r_iload_n d102_110
theorem r102_111  : am_Rn L xs d 102 111 ls st σ Q = am_li ls 7 (fun x => am_Rn L xs d 102 113 ls (.int x :: st) σ Q) := am_r_iload d102_111
theorem r102_113 {a b : Int32} : am_Rn L xs d 102 113 ls (.int b :: .int a :: st) σ Q = am_Rn L xs d 102 114 ls (.int (a * b) :: st) σ Q := am_r_imul d102_113
theorem r102_114 {a b : Int32} : am_Rn L xs d 102 114 ls (.int b :: .int a :: st) σ Q = if a ≤ b then am_Rn L xs d 102 127 ls st σ Q else am_Rn L xs d 102 117 ls st σ Q := (am_r_icmp (t := 127) d102_114 (by decide)).trans (am_ite _ _ trivial (by simp only [am_cond, decide_eq_true_eq]))
theorem r102_117  : am_Rn L xs d 102 117 ls st σ Q = am_li ls 5 (fun x => am_Rn L xs d 102 119 ls (.int x :: st) σ Q) := am_r_iload d102_117
theorem r102_119 {x : Int32} : am_Rn L xs d 102 119 ls (.int x :: st) σ Q = (2 < ls.length ∧ am_Rn L xs d 102 120 (ls.set 2 (.int x)) st σ Q) := am_r_istore_n d102_119
theorem r102_120  : am_Rn L xs d 102 120 ls st σ Q = am_li ls 6 (fun x => am_Rn L xs d 102 122 ls (.int x :: st) σ Q) := am_r_iload d102_120
theorem r102_122 {x : Int32} : am_Rn L xs d 102 122 ls (.int x :: st) σ Q = (3 < ls.length ∧ am_Rn L xs d 102 123 (ls.set 3 (.int x)) st σ Q) := am_r_istore_n d102_122
theorem r102_123  : am_Rn L xs d 102 123 ls st σ Q = am_li ls 7 (fun x => am_Rn L xs d 102 125 ls (.int x :: st) σ Q) := am_r_iload d102_123
theorem r102_125 {x : Int32} : am_Rn L xs d 102 125 ls (.int x :: st) σ Q = (4 < ls.length ∧ am_Rn L xs d 102 127 (ls.set 4 (.int x)) st σ Q) := am_r_istore d102_125
theorem r102_127  : am_Rn L xs d 102 127 ls st σ Q = am_li ls 5 (fun x => am_Rn L xs d 102 130 (ls.set 5 (.int (x + 1))) st σ Q) := am_r_iinc d102_127 (by decide)
theorem r102_130  : am_Rn L xs d 102 130 ls st σ Q = am_Rn L xs d 102 10 ls st σ Q := am_r_goto d102_130 (by decide)
theorem r102_133  : am_Rn L xs d 102 133 ls st σ Q = am_li ls 2 (fun x => am_Rn L xs d 102 134 ls (.int x :: st) σ Q) := am_r_iload_n d102_133
theorem r102_134 {v : Int32} : am_Rn L xs d 102 134 ls [.int v] σ Q = Q (some (.int v)) σ := am_r_ireturn d102_134 rfl
theorem d103_0 : decode (pg_code 103) 0 = .ok (.iconst 0, 1) := by decide +kernel
theorem d103_1 : decode (pg_code 103) 1 = .ok (.istore_n 3, 1) := by decide +kernel
theorem d103_2 : decode (pg_code 103) 2 = .ok (.iload_n 3, 1) := by decide +kernel
theorem d103_3 : decode (pg_code 103) 3 = .ok (.iconst 2, 1) := by decide +kernel
theorem d103_4 : decode (pg_code 103) 4 = .ok (.if_icmp .ge 220, 3) := by decide +kernel
theorem d103_7 : decode (pg_code 103) 7 = .ok (.iload_n 1, 1) := by decide +kernel
theorem d103_8 : decode (pg_code 103) 8 = .ok (.iconst 1, 1) := by decide +kernel
theorem d103_9 : decode (pg_code 103) 9 = .ok (.iadd, 1) := by decide +kernel
theorem d103_10 : decode (pg_code 103) 10 = .ok (.istore 4, 2) := by decide +kernel
theorem d103_12 : decode (pg_code 103) 12 = .ok (.iload 4, 2) := by decide +kernel
theorem d103_14 : decode (pg_code 103) 14 = .ok (.aload_n 0, 1) := by decide +kernel
theorem d103_15 : decode (pg_code 103) 15 = .ok (.getfield 7, 3) := by decide +kernel
theorem d103_18 : decode (pg_code 103) 18 = .ok (.aload_n 0, 1) := by decide +kernel
theorem d103_19 : decode (pg_code 103) 19 = .ok (.getfield 129, 3) := by decide +kernel
theorem d103_22 : decode (pg_code 103) 22 = .ok (.iaload, 1) := by decide +kernel
theorem d103_23 : decode (pg_code 103) 23 = .ok (.if_icmp .ge 195, 3) := by decide +kernel
theorem d103_26 : decode (pg_code 103) 26 = .ok (.iload_n 2, 1) := by decide +kernel
theorem d103_27 : decode (pg_code 103) 27 = .ok (.iconst 1, 1) := by decide +kernel
theorem d103_28 : decode (pg_code 103) 28 = .ok (.iadd, 1) := by decide +kernel
theorem d103_29 : decode (pg_code 103) 29 = .ok (.istore 5, 2) := by decide +kernel
theorem d103_31 : decode (pg_code 103) 31 = .ok (.iload 5, 2) := by decide +kernel
theorem d103_33 : decode (pg_code 103) 33 = .ok (.aload_n 0, 1) := by decide +kernel
theorem d103_34 : decode (pg_code 103) 34 = .ok (.getfield 7, 3) := by decide +kernel
theorem d103_37 : decode (pg_code 103) 37 = .ok (.aload_n 0, 1) := by decide +kernel
theorem d103_38 : decode (pg_code 103) 38 = .ok (.getfield 141, 3) := by decide +kernel
theorem d103_41 : decode (pg_code 103) 41 = .ok (.iaload, 1) := by decide +kernel
theorem d103_42 : decode (pg_code 103) 42 = .ok (.if_icmp .ge 170, 3) := by decide +kernel
theorem d103_45 : decode (pg_code 103) 45 = .ok (.aload_n 0, 1) := by decide +kernel
theorem d103_46 : decode (pg_code 103) 46 = .ok (.getfield 13, 3) := by decide +kernel
theorem d103_49 : decode (pg_code 103) 49 = .ok (.bipush 12, 2) := by decide +kernel
theorem d103_51 : decode (pg_code 103) 51 = .ok (.aload_n 0, 1) := by decide +kernel
theorem d103_52 : decode (pg_code 103) 52 = .ok (.getfield 129, 3) := by decide +kernel
theorem d103_55 : decode (pg_code 103) 55 = .ok (.imul, 1) := by decide +kernel
theorem d103_56 : decode (pg_code 103) 56 = .ok (.iload 4, 2) := by decide +kernel
theorem d103_58 : decode (pg_code 103) 58 = .ok (.iadd, 1) := by decide +kernel
theorem d103_59 : decode (pg_code 103) 59 = .ok (.iaload, 1) := by decide +kernel
theorem d103_60 : decode (pg_code 103) 60 = .ok (.iload_n 1, 1) := by decide +kernel
theorem d103_61 : decode (pg_code 103) 61 = .ok (.if_icmp .ne 46, 3) := by decide +kernel
theorem d103_64 : decode (pg_code 103) 64 = .ok (.aload_n 0, 1) := by decide +kernel
theorem d103_65 : decode (pg_code 103) 65 = .ok (.getfield 22, 3) := by decide +kernel
theorem d103_68 : decode (pg_code 103) 68 = .ok (.iload 4, 2) := by decide +kernel
theorem d103_70 : decode (pg_code 103) 70 = .ok (.iaload, 1) := by decide +kernel
theorem d103_71 : decode (pg_code 103) 71 = .ok (.ifCond .ge 36, 3) := by decide +kernel
theorem d103_74 : decode (pg_code 103) 74 = .ok (.aload_n 0, 1) := by decide +kernel
theorem d103_75 : decode (pg_code 103) 75 = .ok (.getfield 13, 3) := by decide +kernel
theorem d103_78 : decode (pg_code 103) 78 = .ok (.bipush 12, 2) := by decide +kernel
theorem d103_80 : decode (pg_code 103) 80 = .ok (.aload_n 0, 1) := by decide +kernel
theorem d103_81 : decode (pg_code 103) 81 = .ok (.getfield 141, 3) := by decide +kernel
theorem d103_84 : decode (pg_code 103) 84 = .ok (.imul, 1) := by decide +kernel
theorem d103_85 : decode (pg_code 103) 85 = .ok (.iload 5, 2) := by decide +kernel
theorem d103_87 : decode (pg_code 103) 87 = .ok (.iadd, 1) := by decide +kernel
theorem d103_88 : decode (pg_code 103) 88 = .ok (.iaload, 1) := by decide +kernel
theorem d103_89 : decode (pg_code 103) 89 = .ok (.iload_n 2, 1) := by decide +kernel
theorem d103_90 : decode (pg_code 103) 90 = .ok (.if_icmp .ne 17, 3) := by decide +kernel
theorem d103_93 : decode (pg_code 103) 93 = .ok (.aload_n 0, 1) := by decide +kernel
theorem d103_94 : decode (pg_code 103) 94 = .ok (.getfield 25, 3) := by decide +kernel
theorem d103_97 : decode (pg_code 103) 97 = .ok (.iload 5, 2) := by decide +kernel
theorem d103_99 : decode (pg_code 103) 99 = .ok (.iaload, 1) := by decide +kernel
theorem d103_100 : decode (pg_code 103) 100 = .ok (.ifCond .ge 7, 3) := by decide +kernel
theorem d103_103 : decode (pg_code 103) 103 = .ok (.iconst 1, 1) := by decide +kernel
theorem d103_104 : decode (pg_code 103) 104 = .ok (.goto 4, 3) := by decide +kernel
theorem d103_107 : decode (pg_code 103) 107 = .ok (.iconst 0, 1) := by decide +kernel
theorem d103_108 : decode (pg_code 103) 108 = .ok (.istore 6, 2) := by decide +kernel
theorem d103_110 : decode (pg_code 103) 110 = .ok (.aload_n 0, 1) := by decide +kernel
theorem d103_111 : decode (pg_code 103) 111 = .ok (.getfield 16, 3) := by decide +kernel
theorem d103_114 : decode (pg_code 103) 114 = .ok (.bipush 12, 2) := by decide +kernel
theorem d103_116 : decode (pg_code 103) 116 = .ok (.aload_n 0, 1) := by decide +kernel
theorem d103_117 : decode (pg_code 103) 117 = .ok (.getfield 129, 3) := by decide +kernel
theorem d103_120 : decode (pg_code 103) 120 = .ok (.imul, 1) := by decide +kernel
theorem d103_121 : decode (pg_code 103) 121 = .ok (.iload 4, 2) := by decide +kernel
theorem d103_123 : decode (pg_code 103) 123 = .ok (.iadd, 1) := by decide +kernel
theorem d103_124 : decode (pg_code 103) 124 = .ok (.iaload, 1) := by decide +kernel
theorem d103_125 : decode (pg_code 103) 125 = .ok (.aload_n 0, 1) := by decide +kernel
theorem d103_126 : decode (pg_code 103) 126 = .ok (.getfield 16, 3) := by decide +kernel
theorem d103_129 : decode (pg_code 103) 129 = .ok (.bipush 12, 2) := by decide +kernel
theorem d103_131 : decode (pg_code 103) 131 = .ok (.aload_n 0, 1) := by decide +kernel
theorem d103_132 : decode (pg_code 103) 132 = .ok (.getfield 141, 3) := by decide +kernel
theorem d103_135 : decode (pg_code 103) 135 = .ok (.imul, 1) := by decide +kernel
theorem d103_136 : decode (pg_code 103) 136 = .ok (.iload 5, 2) := by decide +kernel
theorem d103_138 : decode (pg_code 103) 138 = .ok (.iadd, 1) := by decide +kernel
theorem d103_139 : decode (pg_code 103) 139 = .ok (.iaload, 1) := by decide +kernel
theorem d103_140 : decode (pg_code 103) 140 = .ok (.if_icmp .ne 45, 3) := by decide +kernel
theorem d103_143 : decode (pg_code 103) 143 = .ok (.iload_n 3, 1) := by decide +kernel
theorem d103_144 : decode (pg_code 103) 144 = .ok (.iconst 1, 1) := by decide +kernel
theorem d103_145 : decode (pg_code 103) 145 = .ok (.if_icmp .eq 36, 3) := by decide +kernel
theorem d103_148 : decode (pg_code 103) 148 = .ok (.aload_n 0, 1) := by decide +kernel
theorem d103_149 : decode (pg_code 103) 149 = .ok (.getfield 19, 3) := by decide +kernel
theorem d103_152 : decode (pg_code 103) 152 = .ok (.bipush 12, 2) := by decide +kernel
theorem d103_154 : decode (pg_code 103) 154 = .ok (.aload_n 0, 1) := by decide +kernel
theorem d103_155 : decode (pg_code 103) 155 = .ok (.getfield 129, 3) := by decide +kernel
theorem d103_158 : decode (pg_code 103) 158 = .ok (.imul, 1) := by decide +kernel
theorem d103_159 : decode (pg_code 103) 159 = .ok (.iload 4, 2) := by decide +kernel
theorem d103_161 : decode (pg_code 103) 161 = .ok (.iadd, 1) := by decide +kernel
theorem d103_162 : decode (pg_code 103) 162 = .ok (.iaload, 1) := by decide +kernel
theorem d103_163 : decode (pg_code 103) 163 = .ok (.aload_n 0, 1) := by decide +kernel
theorem d103_164 : decode (pg_code 103) 164 = .ok (.getfield 19, 3) := by decide +kernel
theorem d103_167 : decode (pg_code 103) 167 = .ok (.bipush 12, 2) := by decide +kernel
theorem d103_169 : decode (pg_code 103) 169 = .ok (.aload_n 0, 1) := by decide +kernel
theorem d103_170 : decode (pg_code 103) 170 = .ok (.getfield 141, 3) := by decide +kernel
theorem d103_173 : decode (pg_code 103) 173 = .ok (.imul, 1) := by decide +kernel
theorem d103_174 : decode (pg_code 103) 174 = .ok (.iload 5, 2) := by decide +kernel
theorem d103_176 : decode (pg_code 103) 176 = .ok (.iadd, 1) := by decide +kernel
theorem d103_177 : decode (pg_code 103) 177 = .ok (.iaload, 1) := by decide +kernel
theorem d103_178 : decode (pg_code 103) 178 = .ok (.if_icmp .ne 7, 3) := by decide +kernel
theorem d103_181 : decode (pg_code 103) 181 = .ok (.iconst 1, 1) := by decide +kernel
theorem d103_182 : decode (pg_code 103) 182 = .ok (.goto 4, 3) := by decide +kernel
theorem d103_185 : decode (pg_code 103) 185 = .ok (.iconst 0, 1) := by decide +kernel
theorem d103_186 : decode (pg_code 103) 186 = .ok (.istore 7, 2) := by decide +kernel
theorem d103_188 : decode (pg_code 103) 188 = .ok (.iload 6, 2) := by decide +kernel
theorem d103_190 : decode (pg_code 103) 190 = .ok (.ifCond .eq 16, 3) := by decide +kernel
theorem d103_193 : decode (pg_code 103) 193 = .ok (.iload 7, 2) := by decide +kernel
theorem d103_195 : decode (pg_code 103) 195 = .ok (.ifCond .eq 11, 3) := by decide +kernel
theorem d103_198 : decode (pg_code 103) 198 = .ok (.aload_n 0, 1) := by decide +kernel
theorem d103_199 : decode (pg_code 103) 199 = .ok (.iload 4, 2) := by decide +kernel
theorem d103_201 : decode (pg_code 103) 201 = .ok (.iload 5, 2) := by decide +kernel
theorem d103_203 : decode (pg_code 103) 203 = .ok (.invokevirtual 147, 3) := by decide +kernel
theorem d103_206 : decode (pg_code 103) 206 = .ok (.iinc 5 1, 3) := by decide +kernel
theorem d103_209 : decode (pg_code 103) 209 = .ok (.goto (-178), 3) := by decide +kernel
theorem d103_212 : decode (pg_code 103) 212 = .ok (.iinc 4 1, 3) := by decide +kernel
theorem d103_215 : decode (pg_code 103) 215 = .ok (.goto (-203), 3) := by decide +kernel
theorem d103_218 : decode (pg_code 103) 218 = .ok (.iinc 3 1, 3) := by decide +kernel
theorem d103_221 : decode (pg_code 103) 221 = .ok (.goto (-219), 3) := by decide +kernel
theorem d103_224 : decode (pg_code 103) 224 = .ok (.return_, 1) := by decide +kernel
theorem e103 {b1 b2 b3 : Value} : am_Call L xs d 103 [b1, b2, b3] σ Q = am_Rn L xs d 103 0 [b1, b2, b3, .retAddr 0, .retAddr 0, .retAddr 0, .retAddr 0, .retAddr 0] [] σ Q := rfl
theorem r103_0  : am_Rn L xs d 103 0 ls st σ Q = am_Rn L xs d 103 1 ls (.int 0 :: st) σ Q := am_r_iconst d103_0 (by decide)
theorem r103_1 {x : Int32} : am_Rn L xs d 103 1 ls (.int x :: st) σ Q = (3 < ls.length ∧ am_Rn L xs d 103 2 (ls.set 3 (.int x)) st σ Q) := am_r_istore_n d103_1
theorem r103_2  : am_Rn L xs d 103 2 ls st σ Q = am_li ls 3 (fun x => am_Rn L xs d 103 3 ls (.int x :: st) σ Q) := am_r_iload_n d103_2
theorem r103_3  : am_Rn L xs d 103 3 ls st σ Q = am_Rn L xs d 103 4 ls (.int 2 :: st) σ Q := am_r_iconst d103_3 (by decide)
theorem r103_4 {a b : Int32} : am_Rn L xs d 103 4 ls (.int b :: .int a :: st) σ Q = if b ≤ a then am_Rn L xs d 103 224 ls st σ Q else am_Rn L xs d 103 7 ls st σ Q := (am_r_icmp (t := 224) d103_4 (by decide)).trans (am_ite _ _ trivial (by simp only [am_cond, decide_eq_true_eq]))
theorem r103_7  : am_Rn L xs d 103 7 ls st σ Q = am_li ls 1 (fun x => am_Rn L xs d 103 8 ls (.int x :: st) σ Q) := am_r_iload_n d103_7
theorem r103_8  : am_Rn L xs d 103 8 ls st σ Q = am_Rn L xs d 103 9 ls (.int 1 :: st) σ Q := am_r_iconst d103_8 (by decide)
theorem r103_9 {a b : Int32} : am_Rn L xs d 103 9 ls (.int b :: .int a :: st) σ Q = am_Rn L xs d 103 10 ls (.int (a + b) :: st) σ Q := am_r_iadd d103_9
theorem r103_10 {x : Int32} : am_Rn L xs d 103 10 ls (.int x :: st) σ Q = (4 < ls.length ∧ am_Rn L xs d 103 12 (ls.set 4 (.int x)) st σ Q) := am_r_istore d103_10
theorem r103_12  : am_Rn L xs d 103 12 ls st σ Q = am_li ls 4 (fun x => am_Rn L xs d 103 14 ls (.int x :: st) σ Q) := am_r_iload d103_12
theorem r103_14  : am_Rn L xs d 103 14 ls st σ Q = am_la ls 0 (fun x => am_Rn L xs d 103 15 ls (x :: st) σ Q) := am_r_aload_n d103_14
theorem r103_15 {p : Nat} : am_Rn L xs d 103 15 ls (.ref p :: st) σ Q = am_fd σ p 6 0 (fun v => am_Rn L xs d 103 18 ls (v :: st) σ Q) := am_r_getfield d103_15 rfl
theorem r103_18  : am_Rn L xs d 103 18 ls st σ Q = am_la ls 0 (fun x => am_Rn L xs d 103 19 ls (x :: st) σ Q) := am_r_aload_n d103_18
theorem r103_19 {p : Nat} : am_Rn L xs d 103 19 ls (.ref p :: st) σ Q = am_fd σ p 6 16 (fun v => am_Rn L xs d 103 22 ls (v :: st) σ Q) := am_r_getfield d103_19 rfl
theorem r103_22 {p : Nat} {i : Int32} : am_Rn L xs d 103 22 ls (.int i :: .ref p :: st) σ Q = am_ai 0 σ p i (fun x => am_Rn L xs d 103 23 ls (.int x :: st) σ Q) := am_r_iaload d103_22
theorem r103_23 {a b : Int32} : am_Rn L xs d 103 23 ls (.int b :: .int a :: st) σ Q = if b ≤ a then am_Rn L xs d 103 218 ls st σ Q else am_Rn L xs d 103 26 ls st σ Q := (am_r_icmp (t := 218) d103_23 (by decide)).trans (am_ite _ _ trivial (by simp only [am_cond, decide_eq_true_eq]))
theorem r103_26  : am_Rn L xs d 103 26 ls st σ Q = am_li ls 2 (fun x => am_Rn L xs d 103 27 ls (.int x :: st) σ Q) := am_r_iload_n d103_26
theorem r103_27  : am_Rn L xs d 103 27 ls st σ Q = am_Rn L xs d 103 28 ls (.int 1 :: st) σ Q := am_r_iconst d103_27 (by decide)
theorem r103_28 {a b : Int32} : am_Rn L xs d 103 28 ls (.int b :: .int a :: st) σ Q = am_Rn L xs d 103 29 ls (.int (a + b) :: st) σ Q := am_r_iadd d103_28
theorem r103_29 {x : Int32} : am_Rn L xs d 103 29 ls (.int x :: st) σ Q = (5 < ls.length ∧ am_Rn L xs d 103 31 (ls.set 5 (.int x)) st σ Q) := am_r_istore d103_29
theorem r103_31  : am_Rn L xs d 103 31 ls st σ Q = am_li ls 5 (fun x => am_Rn L xs d 103 33 ls (.int x :: st) σ Q) := am_r_iload d103_31
theorem r103_33  : am_Rn L xs d 103 33 ls st σ Q = am_la ls 0 (fun x => am_Rn L xs d 103 34 ls (x :: st) σ Q) := am_r_aload_n d103_33
theorem r103_34 {p : Nat} : am_Rn L xs d 103 34 ls (.ref p :: st) σ Q = am_fd σ p 6 0 (fun v => am_Rn L xs d 103 37 ls (v :: st) σ Q) := am_r_getfield d103_34 rfl
theorem r103_37  : am_Rn L xs d 103 37 ls st σ Q = am_la ls 0 (fun x => am_Rn L xs d 103 38 ls (x :: st) σ Q) := am_r_aload_n d103_37
theorem r103_38 {p : Nat} : am_Rn L xs d 103 38 ls (.ref p :: st) σ Q = am_fd σ p 6 17 (fun v => am_Rn L xs d 103 41 ls (v :: st) σ Q) := am_r_getfield d103_38 rfl
theorem r103_41 {p : Nat} {i : Int32} : am_Rn L xs d 103 41 ls (.int i :: .ref p :: st) σ Q = am_ai 0 σ p i (fun x => am_Rn L xs d 103 42 ls (.int x :: st) σ Q) := am_r_iaload d103_41
theorem r103_42 {a b : Int32} : am_Rn L xs d 103 42 ls (.int b :: .int a :: st) σ Q = if b ≤ a then am_Rn L xs d 103 212 ls st σ Q else am_Rn L xs d 103 45 ls st σ Q := (am_r_icmp (t := 212) d103_42 (by decide)).trans (am_ite _ _ trivial (by simp only [am_cond, decide_eq_true_eq]))
theorem r103_45  : am_Rn L xs d 103 45 ls st σ Q = am_la ls 0 (fun x => am_Rn L xs d 103 46 ls (x :: st) σ Q) := am_r_aload_n d103_45
theorem r103_46 {p : Nat} : am_Rn L xs d 103 46 ls (.ref p :: st) σ Q = am_fd σ p 6 1 (fun v => am_Rn L xs d 103 49 ls (v :: st) σ Q) := am_r_getfield d103_46 rfl
theorem r103_49  : am_Rn L xs d 103 49 ls st σ Q = am_Rn L xs d 103 51 ls (.int 12 :: st) σ Q := am_r_bipush d103_49 (by decide)
theorem r103_51  : am_Rn L xs d 103 51 ls st σ Q = am_la ls 0 (fun x => am_Rn L xs d 103 52 ls (x :: st) σ Q) := am_r_aload_n d103_51
theorem r103_52 {p : Nat} : am_Rn L xs d 103 52 ls (.ref p :: st) σ Q = am_fd σ p 6 16 (fun v => am_Rn L xs d 103 55 ls (v :: st) σ Q) := am_r_getfield d103_52 rfl
theorem r103_55 {a b : Int32} : am_Rn L xs d 103 55 ls (.int b :: .int a :: st) σ Q = am_Rn L xs d 103 56 ls (.int (a * b) :: st) σ Q := am_r_imul d103_55
theorem r103_56  : am_Rn L xs d 103 56 ls st σ Q = am_li ls 4 (fun x => am_Rn L xs d 103 58 ls (.int x :: st) σ Q) := am_r_iload d103_56
theorem r103_58 {a b : Int32} : am_Rn L xs d 103 58 ls (.int b :: .int a :: st) σ Q = am_Rn L xs d 103 59 ls (.int (a + b) :: st) σ Q := am_r_iadd d103_58
theorem r103_59 {p : Nat} {i : Int32} : am_Rn L xs d 103 59 ls (.int i :: .ref p :: st) σ Q = am_ai 0 σ p i (fun x => am_Rn L xs d 103 60 ls (.int x :: st) σ Q) := am_r_iaload d103_59
theorem r103_60  : am_Rn L xs d 103 60 ls st σ Q = am_li ls 1 (fun x => am_Rn L xs d 103 61 ls (.int x :: st) σ Q) := am_r_iload_n d103_60
theorem r103_61 {a b : Int32} : am_Rn L xs d 103 61 ls (.int b :: .int a :: st) σ Q = if ¬ a = b then am_Rn L xs d 103 107 ls st σ Q else am_Rn L xs d 103 64 ls st σ Q := (am_r_icmp (t := 107) d103_61 (by decide)).trans (am_ite _ _ trivial (by simp only [am_cond, decide_eq_true_eq]))
theorem r103_64  : am_Rn L xs d 103 64 ls st σ Q = am_la ls 0 (fun x => am_Rn L xs d 103 65 ls (x :: st) σ Q) := am_r_aload_n d103_64
theorem r103_65 {p : Nat} : am_Rn L xs d 103 65 ls (.ref p :: st) σ Q = am_fd σ p 6 4 (fun v => am_Rn L xs d 103 68 ls (v :: st) σ Q) := am_r_getfield d103_65 rfl
theorem r103_68  : am_Rn L xs d 103 68 ls st σ Q = am_li ls 4 (fun x => am_Rn L xs d 103 70 ls (.int x :: st) σ Q) := am_r_iload d103_68
theorem r103_70 {p : Nat} {i : Int32} : am_Rn L xs d 103 70 ls (.int i :: .ref p :: st) σ Q = am_ai 0 σ p i (fun x => am_Rn L xs d 103 71 ls (.int x :: st) σ Q) := am_r_iaload d103_70
theorem r103_71 {a : Int32} : am_Rn L xs d 103 71 ls (.int a :: st) σ Q = if 0 ≤ a then am_Rn L xs d 103 107 ls st σ Q else am_Rn L xs d 103 74 ls st σ Q := (am_r_if (t := 107) d103_71 (by decide)).trans (am_ite _ _ trivial (by simp only [am_cond, decide_eq_true_eq]))
theorem r103_74  : am_Rn L xs d 103 74 ls st σ Q = am_la ls 0 (fun x => am_Rn L xs d 103 75 ls (x :: st) σ Q) := am_r_aload_n d103_74
theorem r103_75 {p : Nat} : am_Rn L xs d 103 75 ls (.ref p :: st) σ Q = am_fd σ p 6 1 (fun v => am_Rn L xs d 103 78 ls (v :: st) σ Q) := am_r_getfield d103_75 rfl
theorem r103_78  : am_Rn L xs d 103 78 ls st σ Q = am_Rn L xs d 103 80 ls (.int 12 :: st) σ Q := am_r_bipush d103_78 (by decide)
theorem r103_80  : am_Rn L xs d 103 80 ls st σ Q = am_la ls 0 (fun x => am_Rn L xs d 103 81 ls (x :: st) σ Q) := am_r_aload_n d103_80
theorem r103_81 {p : Nat} : am_Rn L xs d 103 81 ls (.ref p :: st) σ Q = am_fd σ p 6 17 (fun v => am_Rn L xs d 103 84 ls (v :: st) σ Q) := am_r_getfield d103_81 rfl
theorem r103_84 {a b : Int32} : am_Rn L xs d 103 84 ls (.int b :: .int a :: st) σ Q = am_Rn L xs d 103 85 ls (.int (a * b) :: st) σ Q := am_r_imul d103_84
theorem r103_85  : am_Rn L xs d 103 85 ls st σ Q = am_li ls 5 (fun x => am_Rn L xs d 103 87 ls (.int x :: st) σ Q) := am_r_iload d103_85
theorem r103_87 {a b : Int32} : am_Rn L xs d 103 87 ls (.int b :: .int a :: st) σ Q = am_Rn L xs d 103 88 ls (.int (a + b) :: st) σ Q := am_r_iadd d103_87
theorem r103_88 {p : Nat} {i : Int32} : am_Rn L xs d 103 88 ls (.int i :: .ref p :: st) σ Q = am_ai 0 σ p i (fun x => am_Rn L xs d 103 89 ls (.int x :: st) σ Q) := am_r_iaload d103_88
theorem r103_89  : am_Rn L xs d 103 89 ls st σ Q = am_li ls 2 (fun x => am_Rn L xs d 103 90 ls (.int x :: st) σ Q) := am_r_iload_n d103_89
theorem r103_90 {a b : Int32} : am_Rn L xs d 103 90 ls (.int b :: .int a :: st) σ Q = if ¬ a = b then am_Rn L xs d 103 107 ls st σ Q else am_Rn L xs d 103 93 ls st σ Q := (am_r_icmp (t := 107) d103_90 (by decide)).trans (am_ite _ _ trivial (by simp only [am_cond, decide_eq_true_eq]))
theorem r103_93  : am_Rn L xs d 103 93 ls st σ Q = am_la ls 0 (fun x => am_Rn L xs d 103 94 ls (x :: st) σ Q) := am_r_aload_n d103_93
theorem r103_94 {p : Nat} : am_Rn L xs d 103 94 ls (.ref p :: st) σ Q = am_fd σ p 6 5 (fun v => am_Rn L xs d 103 97 ls (v :: st) σ Q) := am_r_getfield d103_94 rfl
theorem r103_97  : am_Rn L xs d 103 97 ls st σ Q = am_li ls 5 (fun x => am_Rn L xs d 103 99 ls (.int x :: st) σ Q) := am_r_iload d103_97
theorem r103_99 {p : Nat} {i : Int32} : am_Rn L xs d 103 99 ls (.int i :: .ref p :: st) σ Q = am_ai 0 σ p i (fun x => am_Rn L xs d 103 100 ls (.int x :: st) σ Q) := am_r_iaload d103_99
theorem r103_100 {a : Int32} : am_Rn L xs d 103 100 ls (.int a :: st) σ Q = if 0 ≤ a then am_Rn L xs d 103 107 ls st σ Q else am_Rn L xs d 103 103 ls st σ Q := (am_r_if (t := 107) d103_100 (by decide)).trans (am_ite _ _ trivial (by simp only [am_cond, decide_eq_true_eq]))
theorem r103_103  : am_Rn L xs d 103 103 ls st σ Q = am_Rn L xs d 103 104 ls (.int 1 :: st) σ Q := am_r_iconst d103_103 (by decide)
theorem r103_104  : am_Rn L xs d 103 104 ls st σ Q = am_Rn L xs d 103 108 ls st σ Q := am_r_goto d103_104 (by decide)
theorem r103_107  : am_Rn L xs d 103 107 ls st σ Q = am_Rn L xs d 103 108 ls (.int 0 :: st) σ Q := am_r_iconst d103_107 (by decide)
theorem r103_108 {x : Int32} : am_Rn L xs d 103 108 ls (.int x :: st) σ Q = (6 < ls.length ∧ am_Rn L xs d 103 110 (ls.set 6 (.int x)) st σ Q) := am_r_istore d103_108
theorem r103_110  : am_Rn L xs d 103 110 ls st σ Q = am_la ls 0 (fun x => am_Rn L xs d 103 111 ls (x :: st) σ Q) := am_r_aload_n d103_110
theorem r103_111 {p : Nat} : am_Rn L xs d 103 111 ls (.ref p :: st) σ Q = am_fd σ p 6 2 (fun v => am_Rn L xs d 103 114 ls (v :: st) σ Q) := am_r_getfield d103_111 rfl
theorem r103_114  : am_Rn L xs d 103 114 ls st σ Q = am_Rn L xs d 103 116 ls (.int 12 :: st) σ Q := am_r_bipush d103_114 (by decide)
theorem r103_116  : am_Rn L xs d 103 116 ls st σ Q = am_la ls 0 (fun x => am_Rn L xs d 103 117 ls (x :: st) σ Q) := am_r_aload_n d103_116
theorem r103_117 {p : Nat} : am_Rn L xs d 103 117 ls (.ref p :: st) σ Q = am_fd σ p 6 16 (fun v => am_Rn L xs d 103 120 ls (v :: st) σ Q) := am_r_getfield d103_117 rfl
theorem r103_120 {a b : Int32} : am_Rn L xs d 103 120 ls (.int b :: .int a :: st) σ Q = am_Rn L xs d 103 121 ls (.int (a * b) :: st) σ Q := am_r_imul d103_120
theorem r103_121  : am_Rn L xs d 103 121 ls st σ Q = am_li ls 4 (fun x => am_Rn L xs d 103 123 ls (.int x :: st) σ Q) := am_r_iload d103_121
theorem r103_123 {a b : Int32} : am_Rn L xs d 103 123 ls (.int b :: .int a :: st) σ Q = am_Rn L xs d 103 124 ls (.int (a + b) :: st) σ Q := am_r_iadd d103_123
theorem r103_124 {p : Nat} {i : Int32} : am_Rn L xs d 103 124 ls (.int i :: .ref p :: st) σ Q = am_ai 0 σ p i (fun x => am_Rn L xs d 103 125 ls (.int x :: st) σ Q) := am_r_iaload d103_124
theorem r103_125  : am_Rn L xs d 103 125 ls st σ Q = am_la ls 0 (fun x => am_Rn L xs d 103 126 ls (x :: st) σ Q) := am_r_aload_n d103_125
theorem r103_126 {p : Nat} : am_Rn L xs d 103 126 ls (.ref p :: st) σ Q = am_fd σ p 6 2 (fun v => am_Rn L xs d 103 129 ls (v :: st) σ Q) := am_r_getfield d103_126 rfl
theorem r103_129  : am_Rn L xs d 103 129 ls st σ Q = am_Rn L xs d 103 131 ls (.int 12 :: st) σ Q := am_r_bipush d103_129 (by decide)
theorem r103_131  : am_Rn L xs d 103 131 ls st σ Q = am_la ls 0 (fun x => am_Rn L xs d 103 132 ls (x :: st) σ Q) := am_r_aload_n d103_131
theorem r103_132 {p : Nat} : am_Rn L xs d 103 132 ls (.ref p :: st) σ Q = am_fd σ p 6 17 (fun v => am_Rn L xs d 103 135 ls (v :: st) σ Q) := am_r_getfield d103_132 rfl
theorem r103_135 {a b : Int32} : am_Rn L xs d 103 135 ls (.int b :: .int a :: st) σ Q = am_Rn L xs d 103 136 ls (.int (a * b) :: st) σ Q := am_r_imul d103_135
theorem r103_136  : am_Rn L xs d 103 136 ls st σ Q = am_li ls 5 (fun x => am_Rn L xs d 103 138 ls (.int x :: st) σ Q) := am_r_iload d103_136
theorem r103_138 {a b : Int32} : am_Rn L xs d 103 138 ls (.int b :: .int a :: st) σ Q = am_Rn L xs d 103 139 ls (.int (a + b) :: st) σ Q := am_r_iadd d103_138
theorem r103_139 {p : Nat} {i : Int32} : am_Rn L xs d 103 139 ls (.int i :: .ref p :: st) σ Q = am_ai 0 σ p i (fun x => am_Rn L xs d 103 140 ls (.int x :: st) σ Q) := am_r_iaload d103_139
theorem r103_140 {a b : Int32} : am_Rn L xs d 103 140 ls (.int b :: .int a :: st) σ Q = if ¬ a = b then am_Rn L xs d 103 185 ls st σ Q else am_Rn L xs d 103 143 ls st σ Q := (am_r_icmp (t := 185) d103_140 (by decide)).trans (am_ite _ _ trivial (by simp only [am_cond, decide_eq_true_eq]))
theorem r103_143  : am_Rn L xs d 103 143 ls st σ Q = am_li ls 3 (fun x => am_Rn L xs d 103 144 ls (.int x :: st) σ Q) := am_r_iload_n d103_143
theorem r103_144  : am_Rn L xs d 103 144 ls st σ Q = am_Rn L xs d 103 145 ls (.int 1 :: st) σ Q := am_r_iconst d103_144 (by decide)
theorem r103_145 {a b : Int32} : am_Rn L xs d 103 145 ls (.int b :: .int a :: st) σ Q = if a = b then am_Rn L xs d 103 181 ls st σ Q else am_Rn L xs d 103 148 ls st σ Q := (am_r_icmp (t := 181) d103_145 (by decide)).trans (am_ite _ _ trivial (by simp only [am_cond, decide_eq_true_eq]))
theorem r103_148  : am_Rn L xs d 103 148 ls st σ Q = am_la ls 0 (fun x => am_Rn L xs d 103 149 ls (x :: st) σ Q) := am_r_aload_n d103_148
theorem r103_149 {p : Nat} : am_Rn L xs d 103 149 ls (.ref p :: st) σ Q = am_fd σ p 6 3 (fun v => am_Rn L xs d 103 152 ls (v :: st) σ Q) := am_r_getfield d103_149 rfl
theorem r103_152  : am_Rn L xs d 103 152 ls st σ Q = am_Rn L xs d 103 154 ls (.int 12 :: st) σ Q := am_r_bipush d103_152 (by decide)
theorem r103_154  : am_Rn L xs d 103 154 ls st σ Q = am_la ls 0 (fun x => am_Rn L xs d 103 155 ls (x :: st) σ Q) := am_r_aload_n d103_154
theorem r103_155 {p : Nat} : am_Rn L xs d 103 155 ls (.ref p :: st) σ Q = am_fd σ p 6 16 (fun v => am_Rn L xs d 103 158 ls (v :: st) σ Q) := am_r_getfield d103_155 rfl
theorem r103_158 {a b : Int32} : am_Rn L xs d 103 158 ls (.int b :: .int a :: st) σ Q = am_Rn L xs d 103 159 ls (.int (a * b) :: st) σ Q := am_r_imul d103_158
theorem r103_159  : am_Rn L xs d 103 159 ls st σ Q = am_li ls 4 (fun x => am_Rn L xs d 103 161 ls (.int x :: st) σ Q) := am_r_iload d103_159
theorem r103_161 {a b : Int32} : am_Rn L xs d 103 161 ls (.int b :: .int a :: st) σ Q = am_Rn L xs d 103 162 ls (.int (a + b) :: st) σ Q := am_r_iadd d103_161
theorem r103_162 {p : Nat} {i : Int32} : am_Rn L xs d 103 162 ls (.int i :: .ref p :: st) σ Q = am_ai 0 σ p i (fun x => am_Rn L xs d 103 163 ls (.int x :: st) σ Q) := am_r_iaload d103_162
theorem r103_163  : am_Rn L xs d 103 163 ls st σ Q = am_la ls 0 (fun x => am_Rn L xs d 103 164 ls (x :: st) σ Q) := am_r_aload_n d103_163
theorem r103_164 {p : Nat} : am_Rn L xs d 103 164 ls (.ref p :: st) σ Q = am_fd σ p 6 3 (fun v => am_Rn L xs d 103 167 ls (v :: st) σ Q) := am_r_getfield d103_164 rfl
theorem r103_167  : am_Rn L xs d 103 167 ls st σ Q = am_Rn L xs d 103 169 ls (.int 12 :: st) σ Q := am_r_bipush d103_167 (by decide)
theorem r103_169  : am_Rn L xs d 103 169 ls st σ Q = am_la ls 0 (fun x => am_Rn L xs d 103 170 ls (x :: st) σ Q) := am_r_aload_n d103_169
theorem r103_170 {p : Nat} : am_Rn L xs d 103 170 ls (.ref p :: st) σ Q = am_fd σ p 6 17 (fun v => am_Rn L xs d 103 173 ls (v :: st) σ Q) := am_r_getfield d103_170 rfl
theorem r103_173 {a b : Int32} : am_Rn L xs d 103 173 ls (.int b :: .int a :: st) σ Q = am_Rn L xs d 103 174 ls (.int (a * b) :: st) σ Q := am_r_imul d103_173
theorem r103_174  : am_Rn L xs d 103 174 ls st σ Q = am_li ls 5 (fun x => am_Rn L xs d 103 176 ls (.int x :: st) σ Q) := am_r_iload d103_174
theorem r103_176 {a b : Int32} : am_Rn L xs d 103 176 ls (.int b :: .int a :: st) σ Q = am_Rn L xs d 103 177 ls (.int (a + b) :: st) σ Q := am_r_iadd d103_176
theorem r103_177 {p : Nat} {i : Int32} : am_Rn L xs d 103 177 ls (.int i :: .ref p :: st) σ Q = am_ai 0 σ p i (fun x => am_Rn L xs d 103 178 ls (.int x :: st) σ Q) := am_r_iaload d103_177
theorem r103_178 {a b : Int32} : am_Rn L xs d 103 178 ls (.int b :: .int a :: st) σ Q = if ¬ a = b then am_Rn L xs d 103 185 ls st σ Q else am_Rn L xs d 103 181 ls st σ Q := (am_r_icmp (t := 185) d103_178 (by decide)).trans (am_ite _ _ trivial (by simp only [am_cond, decide_eq_true_eq]))
theorem r103_181  : am_Rn L xs d 103 181 ls st σ Q = am_Rn L xs d 103 182 ls (.int 1 :: st) σ Q := am_r_iconst d103_181 (by decide)
theorem r103_182  : am_Rn L xs d 103 182 ls st σ Q = am_Rn L xs d 103 186 ls st σ Q := am_r_goto d103_182 (by decide)
theorem r103_185  : am_Rn L xs d 103 185 ls st σ Q = am_Rn L xs d 103 186 ls (.int 0 :: st) σ Q := am_r_iconst d103_185 (by decide)
theorem r103_186 {x : Int32} : am_Rn L xs d 103 186 ls (.int x :: st) σ Q = (7 < ls.length ∧ am_Rn L xs d 103 188 (ls.set 7 (.int x)) st σ Q) := am_r_istore d103_186
theorem r103_188  : am_Rn L xs d 103 188 ls st σ Q = am_li ls 6 (fun x => am_Rn L xs d 103 190 ls (.int x :: st) σ Q) := am_r_iload d103_188
theorem r103_190 {a : Int32} : am_Rn L xs d 103 190 ls (.int a :: st) σ Q = if a = 0 then am_Rn L xs d 103 206 ls st σ Q else am_Rn L xs d 103 193 ls st σ Q := (am_r_if (t := 206) d103_190 (by decide)).trans (am_ite _ _ trivial (by simp only [am_cond, decide_eq_true_eq]))
theorem r103_193  : am_Rn L xs d 103 193 ls st σ Q = am_li ls 7 (fun x => am_Rn L xs d 103 195 ls (.int x :: st) σ Q) := am_r_iload d103_193
theorem r103_195 {a : Int32} : am_Rn L xs d 103 195 ls (.int a :: st) σ Q = if a = 0 then am_Rn L xs d 103 206 ls st σ Q else am_Rn L xs d 103 198 ls st σ Q := (am_r_if (t := 206) d103_195 (by decide)).trans (am_ite _ _ trivial (by simp only [am_cond, decide_eq_true_eq]))
theorem r103_198  : am_Rn L xs d 103 198 ls st σ Q = am_la ls 0 (fun x => am_Rn L xs d 103 199 ls (x :: st) σ Q) := am_r_aload_n d103_198
theorem r103_199  : am_Rn L xs d 103 199 ls st σ Q = am_li ls 4 (fun x => am_Rn L xs d 103 201 ls (.int x :: st) σ Q) := am_r_iload d103_199
theorem r103_201  : am_Rn L xs d 103 201 ls st σ Q = am_li ls 5 (fun x => am_Rn L xs d 103 203 ls (.int x :: st) σ Q) := am_r_iload d103_201
theorem r103_203 {a1 a2 : Value} {p : Nat} : am_Rn L xs (d + 1) 103 203 ls (a2 :: a1 :: .ref p :: st) σ Q = ((am_oc σ p = 6 ∧ st.length ≤ 4 ∧ am_ok a1 = true ∧ am_ok a2 = true) ∧ am_Call L xs d 101 [.ref p, a1, a2] σ (fun r σ1 => am_Rn L xs (d + 1) 103 206 ls (r.toList ++ st) σ1 Q)) := am_R_virtual2 d103_203 rfl ⟨by decide, rfl⟩ rfl rfl (by decide)
theorem r103_206  : am_Rn L xs d 103 206 ls st σ Q = am_li ls 5 (fun x => am_Rn L xs d 103 209 (ls.set 5 (.int (x + 1))) st σ Q) := am_r_iinc d103_206 (by decide)
theorem r103_209  : am_Rn L xs d 103 209 ls st σ Q = am_Rn L xs d 103 31 ls st σ Q := am_r_goto d103_209 (by decide)
theorem r103_212  : am_Rn L xs d 103 212 ls st σ Q = am_li ls 4 (fun x => am_Rn L xs d 103 215 (ls.set 4 (.int (x + 1))) st σ Q) := am_r_iinc d103_212 (by decide)
theorem r103_215  : am_Rn L xs d 103 215 ls st σ Q = am_Rn L xs d 103 12 ls st σ Q := am_r_goto d103_215 (by decide)
theorem r103_218  : am_Rn L xs d 103 218 ls st σ Q = am_li ls 3 (fun x => am_Rn L xs d 103 221 (ls.set 3 (.int (x + 1))) st σ Q) := am_r_iinc d103_218 (by decide)
theorem r103_221  : am_Rn L xs d 103 221 ls st σ Q = am_Rn L xs d 103 2 ls st σ Q := am_r_goto d103_221 (by decide)
theorem r103_224  : am_Rn L xs d 103 224 ls [] σ Q = Q none σ := am_r_return d103_224 rfl
theorem d104_0 : decode (pg_code 104) 0 = .ok (.aload_n 0, 1) := by decide +kernel
theorem d104_1 : decode (pg_code 104) 1 = .ok (.getfield 59, 3) := by decide +kernel
theorem d104_4 : decode (pg_code 104) 4 = .ok (.iconst 0, 1) := by decide +kernel
theorem d104_5 : decode (pg_code 104) 5 = .ok (.iconst 0, 1) := by decide +kernel
theorem d104_6 : decode (pg_code 104) 6 = .ok (.iastore, 1) := by decide +kernel
theorem d104_7 : decode (pg_code 104) 7 = .ok (.aload_n 0, 1) := by decide +kernel
theorem d104_8 : decode (pg_code 104) 8 = .ok (.getfield 80, 3) := by decide +kernel
theorem d104_11 : decode (pg_code 104) 11 = .ok (.iconst 0, 1) := by decide +kernel
theorem d104_12 : decode (pg_code 104) 12 = .ok (.iconst 0, 1) := by decide +kernel
theorem d104_13 : decode (pg_code 104) 13 = .ok (.iastore, 1) := by decide +kernel
theorem d104_14 : decode (pg_code 104) 14 = .ok (.iconst 0, 1) := by decide +kernel
theorem d104_15 : decode (pg_code 104) 15 = .ok (.istore_n 1, 1) := by decide +kernel
theorem d104_16 : decode (pg_code 104) 16 = .ok (.iload_n 1, 1) := by decide +kernel
theorem d104_17 : decode (pg_code 104) 17 = .ok (.bipush 12, 2) := by decide +kernel
theorem d104_19 : decode (pg_code 104) 19 = .ok (.if_icmp .ge 16, 3) := by decide +kernel
theorem d104_22 : decode (pg_code 104) 22 = .ok (.aload_n 0, 1) := by decide +kernel
theorem d104_23 : decode (pg_code 104) 23 = .ok (.getfield 47, 3) := by decide +kernel
theorem d104_26 : decode (pg_code 104) 26 = .ok (.iload_n 1, 1) := by decide +kernel
theorem d104_27 : decode (pg_code 104) 27 = .ok (.iconst 0, 1) := by decide +kernel
theorem d104_28 : decode (pg_code 104) 28 = .ok (.bastore, 1) := by decide +kernel
theorem d104_29 : decode (pg_code 104) 29 = .ok (.iinc 1 1, 3) := by decide +kernel
theorem d104_32 : decode (pg_code 104) 32 = .ok (.goto (-16), 3) := by decide +kernel
theorem d104_35 : decode (pg_code 104) 35 = .ok (.iconst (-1), 1) := by decide +kernel
theorem d104_36 : decode (pg_code 104) 36 = .ok (.istore_n 1, 1) := by decide +kernel
theorem d104_37 : decode (pg_code 104) 37 = .ok (.iload_n 1, 1) := by decide +kernel
theorem d104_38 : decode (pg_code 104) 38 = .ok (.aload_n 0, 1) := by decide +kernel
theorem d104_39 : decode (pg_code 104) 39 = .ok (.getfield 7, 3) := by decide +kernel
theorem d104_42 : decode (pg_code 104) 42 = .ok (.aload_n 0, 1) := by decide +kernel
theorem d104_43 : decode (pg_code 104) 43 = .ok (.getfield 129, 3) := by decide +kernel
theorem d104_46 : decode (pg_code 104) 46 = .ok (.iaload, 1) := by decide +kernel
theorem d104_47 : decode (pg_code 104) 47 = .ok (.if_icmp .ge 14, 3) := by decide +kernel
theorem d104_50 : decode (pg_code 104) 50 = .ok (.aload_n 0, 1) := by decide +kernel
theorem d104_51 : decode (pg_code 104) 51 = .ok (.iload_n 1, 1) := by decide +kernel
theorem d104_52 : decode (pg_code 104) 52 = .ok (.invokevirtual 167, 3) := by decide +kernel
theorem d104_55 : decode (pg_code 104) 55 = .ok (.iinc 1 1, 3) := by decide +kernel
theorem d104_58 : decode (pg_code 104) 58 = .ok (.goto (-21), 3) := by decide +kernel
theorem d104_61 : decode (pg_code 104) 61 = .ok (.aload_n 0, 1) := by decide +kernel
theorem d104_62 : decode (pg_code 104) 62 = .ok (.invokevirtual 171, 3) := by decide +kernel
theorem d104_65 : decode (pg_code 104) 65 = .ok (.iconst 0, 1) := by decide +kernel
theorem d104_66 : decode (pg_code 104) 66 = .ok (.istore_n 1, 1) := by decide +kernel
theorem d104_67 : decode (pg_code 104) 67 = .ok (.iload_n 1, 1) := by decide +kernel
theorem d104_68 : decode (pg_code 104) 68 = .ok (.aload_n 0, 1) := by decide +kernel
theorem d104_69 : decode (pg_code 104) 69 = .ok (.getfield 7, 3) := by decide +kernel
theorem d104_72 : decode (pg_code 104) 72 = .ok (.aload_n 0, 1) := by decide +kernel
theorem d104_73 : decode (pg_code 104) 73 = .ok (.getfield 141, 3) := by decide +kernel
theorem d104_76 : decode (pg_code 104) 76 = .ok (.iaload, 1) := by decide +kernel
theorem d104_77 : decode (pg_code 104) 77 = .ok (.if_icmp .ge 281, 3) := by decide +kernel
theorem d104_80 : decode (pg_code 104) 80 = .ok (.aload_n 0, 1) := by decide +kernel
theorem d104_81 : decode (pg_code 104) 81 = .ok (.getfield 53, 3) := by decide +kernel
theorem d104_84 : decode (pg_code 104) 84 = .ok (.iload_n 1, 1) := by decide +kernel
theorem d104_85 : decode (pg_code 104) 85 = .ok (.iaload, 1) := by decide +kernel
theorem d104_86 : decode (pg_code 104) 86 = .ok (.istore_n 2, 1) := by decide +kernel
theorem d104_87 : decode (pg_code 104) 87 = .ok (.aload_n 0, 1) := by decide +kernel
theorem d104_88 : decode (pg_code 104) 88 = .ok (.getfield 13, 3) := by decide +kernel
theorem d104_91 : decode (pg_code 104) 91 = .ok (.bipush 12, 2) := by decide +kernel
theorem d104_93 : decode (pg_code 104) 93 = .ok (.aload_n 0, 1) := by decide +kernel
theorem d104_94 : decode (pg_code 104) 94 = .ok (.getfield 141, 3) := by decide +kernel
theorem d104_97 : decode (pg_code 104) 97 = .ok (.imul, 1) := by decide +kernel
theorem d104_98 : decode (pg_code 104) 98 = .ok (.iload_n 2, 1) := by decide +kernel
theorem d104_99 : decode (pg_code 104) 99 = .ok (.iadd, 1) := by decide +kernel
theorem d104_100 : decode (pg_code 104) 100 = .ok (.iaload, 1) := by decide +kernel
theorem d104_101 : decode (pg_code 104) 101 = .ok (.istore_n 3, 1) := by decide +kernel
theorem d104_102 : decode (pg_code 104) 102 = .ok (.iconst (-1), 1) := by decide +kernel
theorem d104_103 : decode (pg_code 104) 103 = .ok (.istore 4, 2) := by decide +kernel
theorem d104_105 : decode (pg_code 104) 105 = .ok (.iconst 0, 1) := by decide +kernel
theorem d104_106 : decode (pg_code 104) 106 = .ok (.istore 5, 2) := by decide +kernel
theorem d104_108 : decode (pg_code 104) 108 = .ok (.iload 5, 2) := by decide +kernel
theorem d104_110 : decode (pg_code 104) 110 = .ok (.iload_n 2, 1) := by decide +kernel
theorem d104_111 : decode (pg_code 104) 111 = .ok (.if_icmp .ge 46, 3) := by decide +kernel
theorem d104_114 : decode (pg_code 104) 114 = .ok (.iload_n 2, 1) := by decide +kernel
theorem d104_115 : decode (pg_code 104) 115 = .ok (.ifCond .le 32, 3) := by decide +kernel
theorem d104_118 : decode (pg_code 104) 118 = .ok (.aload_n 0, 1) := by decide +kernel
theorem d104_119 : decode (pg_code 104) 119 = .ok (.getfield 13, 3) := by decide +kernel
theorem d104_122 : decode (pg_code 104) 122 = .ok (.bipush 12, 2) := by decide +kernel
theorem d104_124 : decode (pg_code 104) 124 = .ok (.aload_n 0, 1) := by decide +kernel
theorem d104_125 : decode (pg_code 104) 125 = .ok (.getfield 141, 3) := by decide +kernel
theorem d104_128 : decode (pg_code 104) 128 = .ok (.imul, 1) := by decide +kernel
theorem d104_129 : decode (pg_code 104) 129 = .ok (.iload 5, 2) := by decide +kernel
theorem d104_131 : decode (pg_code 104) 131 = .ok (.iadd, 1) := by decide +kernel
theorem d104_132 : decode (pg_code 104) 132 = .ok (.iaload, 1) := by decide +kernel
theorem d104_133 : decode (pg_code 104) 133 = .ok (.iload_n 3, 1) := by decide +kernel
theorem d104_134 : decode (pg_code 104) 134 = .ok (.if_icmp .ne 13, 3) := by decide +kernel
theorem d104_137 : decode (pg_code 104) 137 = .ok (.aload_n 0, 1) := by decide +kernel
theorem d104_138 : decode (pg_code 104) 138 = .ok (.getfield 50, 3) := by decide +kernel
theorem d104_141 : decode (pg_code 104) 141 = .ok (.iload 5, 2) := by decide +kernel
theorem d104_143 : decode (pg_code 104) 143 = .ok (.iaload, 1) := by decide +kernel
theorem d104_144 : decode (pg_code 104) 144 = .ok (.goto 5, 3) := by decide +kernel
theorem d104_147 : decode (pg_code 104) 147 = .ok (.iload 4, 2) := by decide +kernel
theorem d104_149 : decode (pg_code 104) 149 = .ok (.istore 4, 2) := by decide +kernel
theorem d104_151 : decode (pg_code 104) 151 = .ok (.iinc 5 1, 3) := by decide +kernel
theorem d104_154 : decode (pg_code 104) 154 = .ok (.goto (-46), 3) := by decide +kernel
theorem d104_157 : decode (pg_code 104) 157 = .ok (.iload_n 3, 1) := by decide +kernel
theorem d104_158 : decode (pg_code 104) 158 = .ok (.ifCond .ge 7, 3) := by decide +kernel
theorem d104_161 : decode (pg_code 104) 161 = .ok (.iconst (-1), 1) := by decide +kernel
theorem d104_162 : decode (pg_code 104) 162 = .ok (.goto 9, 3) := by decide +kernel
theorem d104_165 : decode (pg_code 104) 165 = .ok (.aload_n 0, 1) := by decide +kernel
theorem d104_166 : decode (pg_code 104) 166 = .ok (.getfield 50, 3) := by decide +kernel
theorem d104_169 : decode (pg_code 104) 169 = .ok (.iload_n 3, 1) := by decide +kernel
theorem d104_170 : decode (pg_code 104) 170 = .ok (.iaload, 1) := by decide +kernel
theorem d104_171 : decode (pg_code 104) 171 = .ok (.istore_n 3, 1) := by decide +kernel
theorem d104_172 : decode (pg_code 104) 172 = .ok (.aload_n 0, 1) := by decide +kernel
theorem d104_173 : decode (pg_code 104) 173 = .ok (.getfield 25, 3) := by decide +kernel
theorem d104_176 : decode (pg_code 104) 176 = .ok (.iload_n 2, 1) := by decide +kernel
theorem d104_177 : decode (pg_code 104) 177 = .ok (.iaload, 1) := by decide +kernel
theorem d104_178 : decode (pg_code 104) 178 = .ok (.ifCond .ge 80, 3) := by decide +kernel
theorem d104_181 : decode (pg_code 104) 181 = .ok (.aload_n 0, 1) := by decide +kernel
theorem d104_182 : decode (pg_code 104) 182 = .ok (.getfield 50, 3) := by decide +kernel
theorem d104_185 : decode (pg_code 104) 185 = .ok (.iload_n 2, 1) := by decide +kernel
theorem d104_186 : decode (pg_code 104) 186 = .ok (.aload_n 0, 1) := by decide +kernel
theorem d104_187 : decode (pg_code 104) 187 = .ok (.getfield 7, 3) := by decide +kernel
theorem d104_190 : decode (pg_code 104) 190 = .ok (.aload_n 0, 1) := by decide +kernel
theorem d104_191 : decode (pg_code 104) 191 = .ok (.getfield 129, 3) := by decide +kernel
theorem d104_194 : decode (pg_code 104) 194 = .ok (.iaload, 1) := by decide +kernel
theorem d104_195 : decode (pg_code 104) 195 = .ok (.aload_n 0, 1) := by decide +kernel
theorem d104_196 : decode (pg_code 104) 196 = .ok (.getfield 80, 3) := by decide +kernel
theorem d104_199 : decode (pg_code 104) 199 = .ok (.iconst 0, 1) := by decide +kernel
theorem d104_200 : decode (pg_code 104) 200 = .ok (.iaload, 1) := by decide +kernel
theorem d104_201 : decode (pg_code 104) 201 = .ok (.iadd, 1) := by decide +kernel
theorem d104_202 : decode (pg_code 104) 202 = .ok (.iastore, 1) := by decide +kernel
theorem d104_203 : decode (pg_code 104) 203 = .ok (.aload_n 0, 1) := by decide +kernel
theorem d104_204 : decode (pg_code 104) 204 = .ok (.getfield 80, 3) := by decide +kernel
theorem d104_207 : decode (pg_code 104) 207 = .ok (.iconst 0, 1) := by decide +kernel
theorem d104_208 : decode (pg_code 104) 208 = .ok (.dup2, 1) := by decide +kernel
theorem d104_209 : decode (pg_code 104) 209 = .ok (.iaload, 1) := by decide +kernel
theorem d104_210 : decode (pg_code 104) 210 = .ok (.iconst 1, 1) := by decide +kernel
theorem d104_211 : decode (pg_code 104) 211 = .ok (.iadd, 1) := by decide +kernel
theorem d104_212 : decode (pg_code 104) 212 = .ok (.iastore, 1) := by decide +kernel
theorem d104_213 : decode (pg_code 104) 213 = .ok (.aload_n 0, 1) := by decide +kernel
theorem d104_214 : decode (pg_code 104) 214 = .ok (.iconst 0, 1) := by decide +kernel
theorem d104_215 : decode (pg_code 104) 215 = .ok (.aload_n 0, 1) := by decide +kernel
theorem d104_216 : decode (pg_code 104) 216 = .ok (.getfield 50, 3) := by decide +kernel
theorem d104_219 : decode (pg_code 104) 219 = .ok (.iload_n 2, 1) := by decide +kernel
theorem d104_220 : decode (pg_code 104) 220 = .ok (.iaload, 1) := by decide +kernel
theorem d104_221 : decode (pg_code 104) 221 = .ok (.iload_n 3, 1) := by decide +kernel
theorem d104_222 : decode (pg_code 104) 222 = .ok (.iload 4, 2) := by decide +kernel
theorem d104_224 : decode (pg_code 104) 224 = .ok (.aload_n 0, 1) := by decide +kernel
theorem d104_225 : decode (pg_code 104) 225 = .ok (.getfield 16, 3) := by decide +kernel
theorem d104_228 : decode (pg_code 104) 228 = .ok (.bipush 12, 2) := by decide +kernel
theorem d104_230 : decode (pg_code 104) 230 = .ok (.aload_n 0, 1) := by decide +kernel
theorem d104_231 : decode (pg_code 104) 231 = .ok (.getfield 141, 3) := by decide +kernel
theorem d104_234 : decode (pg_code 104) 234 = .ok (.imul, 1) := by decide +kernel
theorem d104_235 : decode (pg_code 104) 235 = .ok (.iload_n 2, 1) := by decide +kernel
theorem d104_236 : decode (pg_code 104) 236 = .ok (.iadd, 1) := by decide +kernel
theorem d104_237 : decode (pg_code 104) 237 = .ok (.iaload, 1) := by decide +kernel
theorem d104_238 : decode (pg_code 104) 238 = .ok (.aload_n 0, 1) := by decide +kernel
theorem d104_239 : decode (pg_code 104) 239 = .ok (.getfield 19, 3) := by decide +kernel
theorem d104_242 : decode (pg_code 104) 242 = .ok (.bipush 12, 2) := by decide +kernel
theorem d104_244 : decode (pg_code 104) 244 = .ok (.aload_n 0, 1) := by decide +kernel
theorem d104_245 : decode (pg_code 104) 245 = .ok (.getfield 141, 3) := by decide +kernel
theorem d104_248 : decode (pg_code 104) 248 = .ok (.imul, 1) := by decide +kernel
theorem d104_249 : decode (pg_code 104) 249 = .ok (.iload_n 2, 1) := by decide +kernel
theorem d104_250 : decode (pg_code 104) 250 = .ok (.iadd, 1) := by decide +kernel
theorem d104_251 : decode (pg_code 104) 251 = .ok (.iaload, 1) := by decide +kernel
theorem d104_252 : decode (pg_code 104) 252 = .ok (.invokevirtual 174, 3) := by decide +kernel
theorem d104_255 : decode (pg_code 104) 255 = .ok (.goto 97, 3) := by decide +kernel
theorem d104_258 : decode (pg_code 104) 258 = .ok (.aload_n 0, 1) := by decide +kernel
theorem d104_259 : decode (pg_code 104) 259 = .ok (.getfield 25, 3) := by decide +kernel
theorem d104_262 : decode (pg_code 104) 262 = .ok (.iload_n 2, 1) := by decide +kernel
theorem d104_263 : decode (pg_code 104) 263 = .ok (.iaload, 1) := by decide +kernel
theorem d104_264 : decode (pg_code 104) 264 = .ok (.istore 5, 2) := by decide +kernel
theorem d104_266 : decode (pg_code 104) 266 = .ok (.aload_n 0, 1) := by decide +kernel
theorem d104_267 : decode (pg_code 104) 267 = .ok (.getfield 50, 3) := by decide +kernel
theorem d104_270 : decode (pg_code 104) 270 = .ok (.iload_n 2, 1) := by decide +kernel
theorem d104_271 : decode (pg_code 104) 271 = .ok (.iload 5, 2) := by decide +kernel
theorem d104_273 : decode (pg_code 104) 273 = .ok (.iastore, 1) := by decide +kernel
theorem d104_274 : decode (pg_code 104) 274 = .ok (.aload_n 0, 1) := by decide +kernel
theorem d104_275 : decode (pg_code 104) 275 = .ok (.getfield 19, 3) := by decide +kernel
theorem d104_278 : decode (pg_code 104) 278 = .ok (.bipush 12, 2) := by decide +kernel
theorem d104_280 : decode (pg_code 104) 280 = .ok (.aload_n 0, 1) := by decide +kernel
theorem d104_281 : decode (pg_code 104) 281 = .ok (.getfield 129, 3) := by decide +kernel
theorem d104_284 : decode (pg_code 104) 284 = .ok (.imul, 1) := by decide +kernel
theorem d104_285 : decode (pg_code 104) 285 = .ok (.iload 5, 2) := by decide +kernel
theorem d104_287 : decode (pg_code 104) 287 = .ok (.iadd, 1) := by decide +kernel
theorem d104_288 : decode (pg_code 104) 288 = .ok (.iaload, 1) := by decide +kernel
theorem d104_289 : decode (pg_code 104) 289 = .ok (.aload_n 0, 1) := by decide +kernel
theorem d104_290 : decode (pg_code 104) 290 = .ok (.getfield 19, 3) := by decide +kernel
theorem d104_293 : decode (pg_code 104) 293 = .ok (.bipush 12, 2) := by decide +kernel
theorem d104_295 : decode (pg_code 104) 295 = .ok (.aload_n 0, 1) := by decide +kernel
theorem d104_296 : decode (pg_code 104) 296 = .ok (.getfield 141, 3) := by decide +kernel
theorem d104_299 : decode (pg_code 104) 299 = .ok (.imul, 1) := by decide +kernel
theorem d104_300 : decode (pg_code 104) 300 = .ok (.iload_n 2, 1) := by decide +kernel
theorem d104_301 : decode (pg_code 104) 301 = .ok (.iadd, 1) := by decide +kernel
theorem d104_302 : decode (pg_code 104) 302 = .ok (.iaload, 1) := by decide +kernel
theorem d104_303 : decode (pg_code 104) 303 = .ok (.if_icmp .eq 27, 3) := by decide +kernel
theorem d104_306 : decode (pg_code 104) 306 = .ok (.aload_n 0, 1) := by decide +kernel
theorem d104_307 : decode (pg_code 104) 307 = .ok (.iconst 1, 1) := by decide +kernel
theorem d104_308 : decode (pg_code 104) 308 = .ok (.iload 5, 2) := by decide +kernel
theorem d104_310 : decode (pg_code 104) 310 = .ok (.iconst (-1), 1) := by decide +kernel
theorem d104_311 : decode (pg_code 104) 311 = .ok (.iconst (-1), 1) := by decide +kernel
theorem d104_312 : decode (pg_code 104) 312 = .ok (.iconst (-1), 1) := by decide +kernel
theorem d104_313 : decode (pg_code 104) 313 = .ok (.aload_n 0, 1) := by decide +kernel
theorem d104_314 : decode (pg_code 104) 314 = .ok (.getfield 19, 3) := by decide +kernel
theorem d104_317 : decode (pg_code 104) 317 = .ok (.bipush 12, 2) := by decide +kernel
theorem d104_319 : decode (pg_code 104) 319 = .ok (.aload_n 0, 1) := by decide +kernel
theorem d104_320 : decode (pg_code 104) 320 = .ok (.getfield 141, 3) := by decide +kernel
theorem d104_323 : decode (pg_code 104) 323 = .ok (.imul, 1) := by decide +kernel
theorem d104_324 : decode (pg_code 104) 324 = .ok (.iload_n 2, 1) := by decide +kernel
theorem d104_325 : decode (pg_code 104) 325 = .ok (.iadd, 1) := by decide +kernel
theorem d104_326 : decode (pg_code 104) 326 = .ok (.iaload, 1) := by decide +kernel
theorem d104_327 : decode (pg_code 104) 327 = .ok (.invokevirtual 174, 3) := by decide +kernel
theorem d104_330 : decode (pg_code 104) 330 = .ok (.aload_n 0, 1) := by decide +kernel
theorem d104_331 : decode (pg_code 104) 331 = .ok (.getfield 47, 3) := by decide +kernel
theorem d104_334 : decode (pg_code 104) 334 = .ok (.iload 5, 2) := by decide +kernel
theorem d104_336 : decode (pg_code 104) 336 = .ok (.baload, 1) := by decide +kernel
theorem d104_337 : decode (pg_code 104) 337 = .ok (.ifCond .ne 15, 3) := by decide +kernel
theorem d104_340 : decode (pg_code 104) 340 = .ok (.aload_n 0, 1) := by decide +kernel
theorem d104_341 : decode (pg_code 104) 341 = .ok (.iconst 2, 1) := by decide +kernel
theorem d104_342 : decode (pg_code 104) 342 = .ok (.iload 5, 2) := by decide +kernel
theorem d104_344 : decode (pg_code 104) 344 = .ok (.iload_n 3, 1) := by decide +kernel
theorem d104_345 : decode (pg_code 104) 345 = .ok (.iload 4, 2) := by decide +kernel
theorem d104_347 : decode (pg_code 104) 347 = .ok (.iconst (-1), 1) := by decide +kernel
theorem d104_348 : decode (pg_code 104) 348 = .ok (.iconst 0, 1) := by decide +kernel
theorem d104_349 : decode (pg_code 104) 349 = .ok (.invokevirtual 174, 3) := by decide +kernel
theorem d104_352 : decode (pg_code 104) 352 = .ok (.iinc 1 1, 3) := by decide +kernel
theorem d104_355 : decode (pg_code 104) 355 = .ok (.goto (-288), 3) := by decide +kernel
theorem d104_358 : decode (pg_code 104) 358 = .ok (.aload_n 0, 1) := by decide +kernel
theorem d104_359 : decode (pg_code 104) 359 = .ok (.getfield 7, 3) := by decide +kernel
theorem d104_362 : decode (pg_code 104) 362 = .ok (.aload_n 0, 1) := by decide +kernel
theorem d104_363 : decode (pg_code 104) 363 = .ok (.getfield 129, 3) := by decide +kernel
theorem d104_366 : decode (pg_code 104) 366 = .ok (.iaload, 1) := by decide +kernel
theorem d104_367 : decode (pg_code 104) 367 = .ok (.iconst 1, 1) := by decide +kernel
theorem d104_368 : decode (pg_code 104) 368 = .ok (.isub, 1) := by decide +kernel
theorem d104_369 : decode (pg_code 104) 369 = .ok (.istore_n 1, 1) := by decide +kernel
theorem d104_370 : decode (pg_code 104) 370 = .ok (.iload_n 1, 1) := by decide +kernel
theorem d104_371 : decode (pg_code 104) 371 = .ok (.ifCond .lt 28, 3) := by decide +kernel
theorem d104_374 : decode (pg_code 104) 374 = .ok (.aload_n 0, 1) := by decide +kernel
theorem d104_375 : decode (pg_code 104) 375 = .ok (.getfield 22, 3) := by decide +kernel
theorem d104_378 : decode (pg_code 104) 378 = .ok (.iload_n 1, 1) := by decide +kernel
theorem d104_379 : decode (pg_code 104) 379 = .ok (.iaload, 1) := by decide +kernel
theorem d104_380 : decode (pg_code 104) 380 = .ok (.ifCond .ge 13, 3) := by decide +kernel
theorem d104_383 : decode (pg_code 104) 383 = .ok (.aload_n 0, 1) := by decide +kernel
theorem d104_384 : decode (pg_code 104) 384 = .ok (.iconst 3, 1) := by decide +kernel
theorem d104_385 : decode (pg_code 104) 385 = .ok (.iload_n 1, 1) := by decide +kernel
theorem d104_386 : decode (pg_code 104) 386 = .ok (.iconst (-1), 1) := by decide +kernel
theorem d104_387 : decode (pg_code 104) 387 = .ok (.iconst (-1), 1) := by decide +kernel
theorem d104_388 : decode (pg_code 104) 388 = .ok (.iconst (-1), 1) := by decide +kernel
theorem d104_389 : decode (pg_code 104) 389 = .ok (.iconst 0, 1) := by decide +kernel
theorem d104_390 : decode (pg_code 104) 390 = .ok (.invokevirtual 174, 3) := by decide +kernel
theorem d104_393 : decode (pg_code 104) 393 = .ok (.iinc 1 (-1), 3) := by decide +kernel
theorem d104_396 : decode (pg_code 104) 396 = .ok (.goto (-26), 3) := by decide +kernel
theorem d104_399 : decode (pg_code 104) 399 = .ok (.return_, 1) := by decide +kernel
theorem e104 {b1 : Value} : am_Call L xs d 104 [b1] σ Q = am_Rn L xs d 104 0 [b1, .retAddr 0, .retAddr 0, .retAddr 0, .retAddr 0, .retAddr 0] [] σ Q := rfl
theorem r104_0  : am_Rn L xs d 104 0 ls st σ Q = am_la ls 0 (fun x => am_Rn L xs d 104 1 ls (x :: st) σ Q) := am_r_aload_n d104_0
theorem r104_1 {p : Nat} : am_Rn L xs d 104 1 ls (.ref p :: st) σ Q = am_fd σ p 6 18 (fun v => am_Rn L xs d 104 4 ls (v :: st) σ Q) := am_r_getfield d104_1 rfl
theorem r104_4  : am_Rn L xs d 104 4 ls st σ Q = am_Rn L xs d 104 5 ls (.int 0 :: st) σ Q := am_r_iconst d104_4 (by decide)
theorem r104_5  : am_Rn L xs d 104 5 ls st σ Q = am_Rn L xs d 104 6 ls (.int 0 :: st) σ Q := am_r_iconst d104_5 (by decide)
theorem r104_6 {p : Nat} {i x : Int32} : am_Rn L xs d 104 6 ls (.int x :: .int i :: .ref p :: st) σ Q = am_wi 0 σ p i x (fun σ1 => am_Rn L xs d 104 7 ls st σ1 Q) := am_r_iastore d104_6
theorem r104_7  : am_Rn L xs d 104 7 ls st σ Q = am_la ls 0 (fun x => am_Rn L xs d 104 8 ls (x :: st) σ Q) := am_r_aload_n d104_7
theorem r104_8 {p : Nat} : am_Rn L xs d 104 8 ls (.ref p :: st) σ Q = am_fd σ p 6 25 (fun v => am_Rn L xs d 104 11 ls (v :: st) σ Q) := am_r_getfield d104_8 rfl
theorem r104_11  : am_Rn L xs d 104 11 ls st σ Q = am_Rn L xs d 104 12 ls (.int 0 :: st) σ Q := am_r_iconst d104_11 (by decide)
theorem r104_12  : am_Rn L xs d 104 12 ls st σ Q = am_Rn L xs d 104 13 ls (.int 0 :: st) σ Q := am_r_iconst d104_12 (by decide)
theorem r104_13 {p : Nat} {i x : Int32} : am_Rn L xs d 104 13 ls (.int x :: .int i :: .ref p :: st) σ Q = am_wi 0 σ p i x (fun σ1 => am_Rn L xs d 104 14 ls st σ1 Q) := am_r_iastore d104_13
theorem r104_14  : am_Rn L xs d 104 14 ls st σ Q = am_Rn L xs d 104 15 ls (.int 0 :: st) σ Q := am_r_iconst d104_14 (by decide)
theorem r104_15 {x : Int32} : am_Rn L xs d 104 15 ls (.int x :: st) σ Q = (1 < ls.length ∧ am_Rn L xs d 104 16 (ls.set 1 (.int x)) st σ Q) := am_r_istore_n d104_15
theorem r104_16  : am_Rn L xs d 104 16 ls st σ Q = am_li ls 1 (fun x => am_Rn L xs d 104 17 ls (.int x :: st) σ Q) := am_r_iload_n d104_16
theorem r104_17  : am_Rn L xs d 104 17 ls st σ Q = am_Rn L xs d 104 19 ls (.int 12 :: st) σ Q := am_r_bipush d104_17 (by decide)
theorem r104_19 {a b : Int32} : am_Rn L xs d 104 19 ls (.int b :: .int a :: st) σ Q = if b ≤ a then am_Rn L xs d 104 35 ls st σ Q else am_Rn L xs d 104 22 ls st σ Q := (am_r_icmp (t := 35) d104_19 (by decide)).trans (am_ite _ _ trivial (by simp only [am_cond, decide_eq_true_eq]))
theorem r104_22  : am_Rn L xs d 104 22 ls st σ Q = am_la ls 0 (fun x => am_Rn L xs d 104 23 ls (x :: st) σ Q) := am_r_aload_n d104_22
theorem r104_23 {p : Nat} : am_Rn L xs d 104 23 ls (.ref p :: st) σ Q = am_fd σ p 6 12 (fun v => am_Rn L xs d 104 26 ls (v :: st) σ Q) := am_r_getfield d104_23 rfl
theorem r104_26  : am_Rn L xs d 104 26 ls st σ Q = am_li ls 1 (fun x => am_Rn L xs d 104 27 ls (.int x :: st) σ Q) := am_r_iload_n d104_26
theorem r104_27  : am_Rn L xs d 104 27 ls st σ Q = am_Rn L xs d 104 28 ls (.int 0 :: st) σ Q := am_r_iconst d104_27 (by decide)
theorem r104_28 {p : Nat} {i x : Int32} : am_Rn L xs d 104 28 ls (.int x :: .int i :: .ref p :: st) σ Q = am_wi 1 σ p i (vp_nar .boolean x) (fun σ1 => am_Rn L xs d 104 29 ls st σ1 Q) := am_r_bastore d104_28
theorem r104_29  : am_Rn L xs d 104 29 ls st σ Q = am_li ls 1 (fun x => am_Rn L xs d 104 32 (ls.set 1 (.int (x + 1))) st σ Q) := am_r_iinc d104_29 (by decide)
theorem r104_32  : am_Rn L xs d 104 32 ls st σ Q = am_Rn L xs d 104 16 ls st σ Q := am_r_goto d104_32 (by decide)
theorem r104_35  : am_Rn L xs d 104 35 ls st σ Q = am_Rn L xs d 104 36 ls (.int (-1) :: st) σ Q := am_r_iconst d104_35 (by decide)
theorem r104_36 {x : Int32} : am_Rn L xs d 104 36 ls (.int x :: st) σ Q = (1 < ls.length ∧ am_Rn L xs d 104 37 (ls.set 1 (.int x)) st σ Q) := am_r_istore_n d104_36
theorem r104_37  : am_Rn L xs d 104 37 ls st σ Q = am_li ls 1 (fun x => am_Rn L xs d 104 38 ls (.int x :: st) σ Q) := am_r_iload_n d104_37
theorem r104_38  : am_Rn L xs d 104 38 ls st σ Q = am_la ls 0 (fun x => am_Rn L xs d 104 39 ls (x :: st) σ Q) := am_r_aload_n d104_38
theorem r104_39 {p : Nat} : am_Rn L xs d 104 39 ls (.ref p :: st) σ Q = am_fd σ p 6 0 (fun v => am_Rn L xs d 104 42 ls (v :: st) σ Q) := am_r_getfield d104_39 rfl
theorem r104_42  : am_Rn L xs d 104 42 ls st σ Q = am_la ls 0 (fun x => am_Rn L xs d 104 43 ls (x :: st) σ Q) := am_r_aload_n d104_42
theorem r104_43 {p : Nat} : am_Rn L xs d 104 43 ls (.ref p :: st) σ Q = am_fd σ p 6 16 (fun v => am_Rn L xs d 104 46 ls (v :: st) σ Q) := am_r_getfield d104_43 rfl
theorem r104_46 {p : Nat} {i : Int32} : am_Rn L xs d 104 46 ls (.int i :: .ref p :: st) σ Q = am_ai 0 σ p i (fun x => am_Rn L xs d 104 47 ls (.int x :: st) σ Q) := am_r_iaload d104_46
theorem r104_47 {a b : Int32} : am_Rn L xs d 104 47 ls (.int b :: .int a :: st) σ Q = if b ≤ a then am_Rn L xs d 104 61 ls st σ Q else am_Rn L xs d 104 50 ls st σ Q := (am_r_icmp (t := 61) d104_47 (by decide)).trans (am_ite _ _ trivial (by simp only [am_cond, decide_eq_true_eq]))
theorem r104_50  : am_Rn L xs d 104 50 ls st σ Q = am_la ls 0 (fun x => am_Rn L xs d 104 51 ls (x :: st) σ Q) := am_r_aload_n d104_50
theorem r104_51  : am_Rn L xs d 104 51 ls st σ Q = am_li ls 1 (fun x => am_Rn L xs d 104 52 ls (.int x :: st) σ Q) := am_r_iload_n d104_51
theorem r104_52 {a1 : Value} {p : Nat} : am_Rn L xs (d + 1) 104 52 ls (a1 :: .ref p :: st) σ Q = ((am_oc σ p = 6 ∧ st.length ≤ 4 ∧ am_ok a1 = true) ∧ am_Call L xs d 105 [.ref p, a1] σ (fun r σ1 => am_Rn L xs (d + 1) 104 55 ls (r.toList ++ st) σ1 Q)) := am_R_virtual1 d104_52 rfl ⟨by decide, rfl⟩ rfl rfl (by decide)
theorem r104_55  : am_Rn L xs d 104 55 ls st σ Q = am_li ls 1 (fun x => am_Rn L xs d 104 58 (ls.set 1 (.int (x + 1))) st σ Q) := am_r_iinc d104_55 (by decide)
theorem r104_58  : am_Rn L xs d 104 58 ls st σ Q = am_Rn L xs d 104 37 ls st σ Q := am_r_goto d104_58 (by decide)
theorem r104_61  : am_Rn L xs d 104 61 ls st σ Q = am_la ls 0 (fun x => am_Rn L xs d 104 62 ls (x :: st) σ Q) := am_r_aload_n d104_61
theorem r104_62 {p : Nat} : am_Rn L xs (d + 1) 104 62 ls (.ref p :: st) σ Q = ((am_oc σ p = 6 ∧ st.length ≤ 4) ∧ am_Call L xs d 106 [.ref p] σ (fun r σ1 => am_Rn L xs (d + 1) 104 65 ls (r.toList ++ st) σ1 Q)) := am_R_virtual0 d104_62 rfl ⟨by decide, rfl⟩ rfl rfl (by decide)
theorem r104_65  : am_Rn L xs d 104 65 ls st σ Q = am_Rn L xs d 104 66 ls (.int 0 :: st) σ Q := am_r_iconst d104_65 (by decide)
theorem r104_66 {x : Int32} : am_Rn L xs d 104 66 ls (.int x :: st) σ Q = (1 < ls.length ∧ am_Rn L xs d 104 67 (ls.set 1 (.int x)) st σ Q) := am_r_istore_n d104_66
theorem r104_67  : am_Rn L xs d 104 67 ls st σ Q = am_li ls 1 (fun x => am_Rn L xs d 104 68 ls (.int x :: st) σ Q) := am_r_iload_n d104_67
theorem r104_68  : am_Rn L xs d 104 68 ls st σ Q = am_la ls 0 (fun x => am_Rn L xs d 104 69 ls (x :: st) σ Q) := am_r_aload_n d104_68
theorem r104_69 {p : Nat} : am_Rn L xs d 104 69 ls (.ref p :: st) σ Q = am_fd σ p 6 0 (fun v => am_Rn L xs d 104 72 ls (v :: st) σ Q) := am_r_getfield d104_69 rfl
theorem r104_72  : am_Rn L xs d 104 72 ls st σ Q = am_la ls 0 (fun x => am_Rn L xs d 104 73 ls (x :: st) σ Q) := am_r_aload_n d104_72
theorem r104_73 {p : Nat} : am_Rn L xs d 104 73 ls (.ref p :: st) σ Q = am_fd σ p 6 17 (fun v => am_Rn L xs d 104 76 ls (v :: st) σ Q) := am_r_getfield d104_73 rfl
theorem r104_76 {p : Nat} {i : Int32} : am_Rn L xs d 104 76 ls (.int i :: .ref p :: st) σ Q = am_ai 0 σ p i (fun x => am_Rn L xs d 104 77 ls (.int x :: st) σ Q) := am_r_iaload d104_76
theorem r104_77 {a b : Int32} : am_Rn L xs d 104 77 ls (.int b :: .int a :: st) σ Q = if b ≤ a then am_Rn L xs d 104 358 ls st σ Q else am_Rn L xs d 104 80 ls st σ Q := (am_r_icmp (t := 358) d104_77 (by decide)).trans (am_ite _ _ trivial (by simp only [am_cond, decide_eq_true_eq]))
theorem r104_80  : am_Rn L xs d 104 80 ls st σ Q = am_la ls 0 (fun x => am_Rn L xs d 104 81 ls (x :: st) σ Q) := am_r_aload_n d104_80
theorem r104_81 {p : Nat} : am_Rn L xs d 104 81 ls (.ref p :: st) σ Q = am_fd σ p 6 14 (fun v => am_Rn L xs d 104 84 ls (v :: st) σ Q) := am_r_getfield d104_81 rfl
theorem r104_84  : am_Rn L xs d 104 84 ls st σ Q = am_li ls 1 (fun x => am_Rn L xs d 104 85 ls (.int x :: st) σ Q) := am_r_iload_n d104_84
theorem r104_85 {p : Nat} {i : Int32} : am_Rn L xs d 104 85 ls (.int i :: .ref p :: st) σ Q = am_ai 0 σ p i (fun x => am_Rn L xs d 104 86 ls (.int x :: st) σ Q) := am_r_iaload d104_85
theorem r104_86 {x : Int32} : am_Rn L xs d 104 86 ls (.int x :: st) σ Q = (2 < ls.length ∧ am_Rn L xs d 104 87 (ls.set 2 (.int x)) st σ Q) := am_r_istore_n d104_86
theorem r104_87  : am_Rn L xs d 104 87 ls st σ Q = am_la ls 0 (fun x => am_Rn L xs d 104 88 ls (x :: st) σ Q) := am_r_aload_n d104_87
theorem r104_88 {p : Nat} : am_Rn L xs d 104 88 ls (.ref p :: st) σ Q = am_fd σ p 6 1 (fun v => am_Rn L xs d 104 91 ls (v :: st) σ Q) := am_r_getfield d104_88 rfl
theorem r104_91  : am_Rn L xs d 104 91 ls st σ Q = am_Rn L xs d 104 93 ls (.int 12 :: st) σ Q := am_r_bipush d104_91 (by decide)
theorem r104_93  : am_Rn L xs d 104 93 ls st σ Q = am_la ls 0 (fun x => am_Rn L xs d 104 94 ls (x :: st) σ Q) := am_r_aload_n d104_93
theorem r104_94 {p : Nat} : am_Rn L xs d 104 94 ls (.ref p :: st) σ Q = am_fd σ p 6 17 (fun v => am_Rn L xs d 104 97 ls (v :: st) σ Q) := am_r_getfield d104_94 rfl
theorem r104_97 {a b : Int32} : am_Rn L xs d 104 97 ls (.int b :: .int a :: st) σ Q = am_Rn L xs d 104 98 ls (.int (a * b) :: st) σ Q := am_r_imul d104_97
theorem r104_98  : am_Rn L xs d 104 98 ls st σ Q = am_li ls 2 (fun x => am_Rn L xs d 104 99 ls (.int x :: st) σ Q) := am_r_iload_n d104_98
theorem r104_99 {a b : Int32} : am_Rn L xs d 104 99 ls (.int b :: .int a :: st) σ Q = am_Rn L xs d 104 100 ls (.int (a + b) :: st) σ Q := am_r_iadd d104_99
theorem r104_100 {p : Nat} {i : Int32} : am_Rn L xs d 104 100 ls (.int i :: .ref p :: st) σ Q = am_ai 0 σ p i (fun x => am_Rn L xs d 104 101 ls (.int x :: st) σ Q) := am_r_iaload d104_100
theorem r104_101 {x : Int32} : am_Rn L xs d 104 101 ls (.int x :: st) σ Q = (3 < ls.length ∧ am_Rn L xs d 104 102 (ls.set 3 (.int x)) st σ Q) := am_r_istore_n d104_101
theorem r104_102  : am_Rn L xs d 104 102 ls st σ Q = am_Rn L xs d 104 103 ls (.int (-1) :: st) σ Q := am_r_iconst d104_102 (by decide)
theorem r104_103 {x : Int32} : am_Rn L xs d 104 103 ls (.int x :: st) σ Q = (4 < ls.length ∧ am_Rn L xs d 104 105 (ls.set 4 (.int x)) st σ Q) := am_r_istore d104_103
theorem r104_105  : am_Rn L xs d 104 105 ls st σ Q = am_Rn L xs d 104 106 ls (.int 0 :: st) σ Q := am_r_iconst d104_105 (by decide)
theorem r104_106 {x : Int32} : am_Rn L xs d 104 106 ls (.int x :: st) σ Q = (5 < ls.length ∧ am_Rn L xs d 104 108 (ls.set 5 (.int x)) st σ Q) := am_r_istore d104_106
theorem r104_108  : am_Rn L xs d 104 108 ls st σ Q = am_li ls 5 (fun x => am_Rn L xs d 104 110 ls (.int x :: st) σ Q) := am_r_iload d104_108
theorem r104_110  : am_Rn L xs d 104 110 ls st σ Q = am_li ls 2 (fun x => am_Rn L xs d 104 111 ls (.int x :: st) σ Q) := am_r_iload_n d104_110
theorem r104_111 {a b : Int32} : am_Rn L xs d 104 111 ls (.int b :: .int a :: st) σ Q = if b ≤ a then am_Rn L xs d 104 157 ls st σ Q else am_Rn L xs d 104 114 ls st σ Q := (am_r_icmp (t := 157) d104_111 (by decide)).trans (am_ite _ _ trivial (by simp only [am_cond, decide_eq_true_eq]))
theorem r104_114  : am_Rn L xs d 104 114 ls st σ Q = am_li ls 2 (fun x => am_Rn L xs d 104 115 ls (.int x :: st) σ Q) := am_r_iload_n d104_114
theorem r104_115 {a : Int32} : am_Rn L xs d 104 115 ls (.int a :: st) σ Q = if a ≤ 0 then am_Rn L xs d 104 147 ls st σ Q else am_Rn L xs d 104 118 ls st σ Q := (am_r_if (t := 147) d104_115 (by decide)).trans (am_ite _ _ trivial (by simp only [am_cond, decide_eq_true_eq]))
theorem r104_118  : am_Rn L xs d 104 118 ls st σ Q = am_la ls 0 (fun x => am_Rn L xs d 104 119 ls (x :: st) σ Q) := am_r_aload_n d104_118
theorem r104_119 {p : Nat} : am_Rn L xs d 104 119 ls (.ref p :: st) σ Q = am_fd σ p 6 1 (fun v => am_Rn L xs d 104 122 ls (v :: st) σ Q) := am_r_getfield d104_119 rfl
theorem r104_122  : am_Rn L xs d 104 122 ls st σ Q = am_Rn L xs d 104 124 ls (.int 12 :: st) σ Q := am_r_bipush d104_122 (by decide)
theorem r104_124  : am_Rn L xs d 104 124 ls st σ Q = am_la ls 0 (fun x => am_Rn L xs d 104 125 ls (x :: st) σ Q) := am_r_aload_n d104_124
theorem r104_125 {p : Nat} : am_Rn L xs d 104 125 ls (.ref p :: st) σ Q = am_fd σ p 6 17 (fun v => am_Rn L xs d 104 128 ls (v :: st) σ Q) := am_r_getfield d104_125 rfl
theorem r104_128 {a b : Int32} : am_Rn L xs d 104 128 ls (.int b :: .int a :: st) σ Q = am_Rn L xs d 104 129 ls (.int (a * b) :: st) σ Q := am_r_imul d104_128
theorem r104_129  : am_Rn L xs d 104 129 ls st σ Q = am_li ls 5 (fun x => am_Rn L xs d 104 131 ls (.int x :: st) σ Q) := am_r_iload d104_129
theorem r104_131 {a b : Int32} : am_Rn L xs d 104 131 ls (.int b :: .int a :: st) σ Q = am_Rn L xs d 104 132 ls (.int (a + b) :: st) σ Q := am_r_iadd d104_131
theorem r104_132 {p : Nat} {i : Int32} : am_Rn L xs d 104 132 ls (.int i :: .ref p :: st) σ Q = am_ai 0 σ p i (fun x => am_Rn L xs d 104 133 ls (.int x :: st) σ Q) := am_r_iaload d104_132
theorem r104_133  : am_Rn L xs d 104 133 ls st σ Q = am_li ls 3 (fun x => am_Rn L xs d 104 134 ls (.int x :: st) σ Q) := am_r_iload_n d104_133
theorem r104_134 {a b : Int32} : am_Rn L xs d 104 134 ls (.int b :: .int a :: st) σ Q = if ¬ a = b then am_Rn L xs d 104 147 ls st σ Q else am_Rn L xs d 104 137 ls st σ Q := (am_r_icmp (t := 147) d104_134 (by decide)).trans (am_ite _ _ trivial (by simp only [am_cond, decide_eq_true_eq]))
theorem r104_137  : am_Rn L xs d 104 137 ls st σ Q = am_la ls 0 (fun x => am_Rn L xs d 104 138 ls (x :: st) σ Q) := am_r_aload_n d104_137
theorem r104_138 {p : Nat} : am_Rn L xs d 104 138 ls (.ref p :: st) σ Q = am_fd σ p 6 13 (fun v => am_Rn L xs d 104 141 ls (v :: st) σ Q) := am_r_getfield d104_138 rfl
theorem r104_141  : am_Rn L xs d 104 141 ls st σ Q = am_li ls 5 (fun x => am_Rn L xs d 104 143 ls (.int x :: st) σ Q) := am_r_iload d104_141
theorem r104_143 {p : Nat} {i : Int32} : am_Rn L xs d 104 143 ls (.int i :: .ref p :: st) σ Q = am_ai 0 σ p i (fun x => am_Rn L xs d 104 144 ls (.int x :: st) σ Q) := am_r_iaload d104_143
theorem r104_144  : am_Rn L xs d 104 144 ls st σ Q = am_Rn L xs d 104 149 ls st σ Q := am_r_goto d104_144 (by decide)
theorem r104_147  : am_Rn L xs d 104 147 ls st σ Q = am_li ls 4 (fun x => am_Rn L xs d 104 149 ls (.int x :: st) σ Q) := am_r_iload d104_147
theorem r104_149 {x : Int32} : am_Rn L xs d 104 149 ls (.int x :: st) σ Q = (4 < ls.length ∧ am_Rn L xs d 104 151 (ls.set 4 (.int x)) st σ Q) := am_r_istore d104_149
theorem r104_151  : am_Rn L xs d 104 151 ls st σ Q = am_li ls 5 (fun x => am_Rn L xs d 104 154 (ls.set 5 (.int (x + 1))) st σ Q) := am_r_iinc d104_151 (by decide)
theorem r104_154  : am_Rn L xs d 104 154 ls st σ Q = am_Rn L xs d 104 108 ls st σ Q := am_r_goto d104_154 (by decide)
theorem r104_157  : am_Rn L xs d 104 157 ls st σ Q = am_li ls 3 (fun x => am_Rn L xs d 104 158 ls (.int x :: st) σ Q) := am_r_iload_n d104_157
theorem r104_158 {a : Int32} : am_Rn L xs d 104 158 ls (.int a :: st) σ Q = if 0 ≤ a then am_Rn L xs d 104 165 ls st σ Q else am_Rn L xs d 104 161 ls st σ Q := (am_r_if (t := 165) d104_158 (by decide)).trans (am_ite _ _ trivial (by simp only [am_cond, decide_eq_true_eq]))
theorem r104_161  : am_Rn L xs d 104 161 ls st σ Q = am_Rn L xs d 104 162 ls (.int (-1) :: st) σ Q := am_r_iconst d104_161 (by decide)
theorem r104_162  : am_Rn L xs d 104 162 ls st σ Q = am_Rn L xs d 104 171 ls st σ Q := am_r_goto d104_162 (by decide)
theorem r104_165  : am_Rn L xs d 104 165 ls st σ Q = am_la ls 0 (fun x => am_Rn L xs d 104 166 ls (x :: st) σ Q) := am_r_aload_n d104_165
theorem r104_166 {p : Nat} : am_Rn L xs d 104 166 ls (.ref p :: st) σ Q = am_fd σ p 6 13 (fun v => am_Rn L xs d 104 169 ls (v :: st) σ Q) := am_r_getfield d104_166 rfl
theorem r104_169  : am_Rn L xs d 104 169 ls st σ Q = am_li ls 3 (fun x => am_Rn L xs d 104 170 ls (.int x :: st) σ Q) := am_r_iload_n d104_169
theorem r104_170 {p : Nat} {i : Int32} : am_Rn L xs d 104 170 ls (.int i :: .ref p :: st) σ Q = am_ai 0 σ p i (fun x => am_Rn L xs d 104 171 ls (.int x :: st) σ Q) := am_r_iaload d104_170
theorem r104_171 {x : Int32} : am_Rn L xs d 104 171 ls (.int x :: st) σ Q = (3 < ls.length ∧ am_Rn L xs d 104 172 (ls.set 3 (.int x)) st σ Q) := am_r_istore_n d104_171
theorem r104_172  : am_Rn L xs d 104 172 ls st σ Q = am_la ls 0 (fun x => am_Rn L xs d 104 173 ls (x :: st) σ Q) := am_r_aload_n d104_172
theorem r104_173 {p : Nat} : am_Rn L xs d 104 173 ls (.ref p :: st) σ Q = am_fd σ p 6 5 (fun v => am_Rn L xs d 104 176 ls (v :: st) σ Q) := am_r_getfield d104_173 rfl
theorem r104_176  : am_Rn L xs d 104 176 ls st σ Q = am_li ls 2 (fun x => am_Rn L xs d 104 177 ls (.int x :: st) σ Q) := am_r_iload_n d104_176
theorem r104_177 {p : Nat} {i : Int32} : am_Rn L xs d 104 177 ls (.int i :: .ref p :: st) σ Q = am_ai 0 σ p i (fun x => am_Rn L xs d 104 178 ls (.int x :: st) σ Q) := am_r_iaload d104_177
theorem r104_178 {a : Int32} : am_Rn L xs d 104 178 ls (.int a :: st) σ Q = if 0 ≤ a then am_Rn L xs d 104 258 ls st σ Q else am_Rn L xs d 104 181 ls st σ Q := (am_r_if (t := 258) d104_178 (by decide)).trans (am_ite _ _ trivial (by simp only [am_cond, decide_eq_true_eq]))
theorem r104_181  : am_Rn L xs d 104 181 ls st σ Q = am_la ls 0 (fun x => am_Rn L xs d 104 182 ls (x :: st) σ Q) := am_r_aload_n d104_181
theorem r104_182 {p : Nat} : am_Rn L xs d 104 182 ls (.ref p :: st) σ Q = am_fd σ p 6 13 (fun v => am_Rn L xs d 104 185 ls (v :: st) σ Q) := am_r_getfield d104_182 rfl
theorem r104_185  : am_Rn L xs d 104 185 ls st σ Q = am_li ls 2 (fun x => am_Rn L xs d 104 186 ls (.int x :: st) σ Q) := am_r_iload_n d104_185
theorem r104_186  : am_Rn L xs d 104 186 ls st σ Q = am_la ls 0 (fun x => am_Rn L xs d 104 187 ls (x :: st) σ Q) := am_r_aload_n d104_186
theorem r104_187 {p : Nat} : am_Rn L xs d 104 187 ls (.ref p :: st) σ Q = am_fd σ p 6 0 (fun v => am_Rn L xs d 104 190 ls (v :: st) σ Q) := am_r_getfield d104_187 rfl
theorem r104_190  : am_Rn L xs d 104 190 ls st σ Q = am_la ls 0 (fun x => am_Rn L xs d 104 191 ls (x :: st) σ Q) := am_r_aload_n d104_190
theorem r104_191 {p : Nat} : am_Rn L xs d 104 191 ls (.ref p :: st) σ Q = am_fd σ p 6 16 (fun v => am_Rn L xs d 104 194 ls (v :: st) σ Q) := am_r_getfield d104_191 rfl
theorem r104_194 {p : Nat} {i : Int32} : am_Rn L xs d 104 194 ls (.int i :: .ref p :: st) σ Q = am_ai 0 σ p i (fun x => am_Rn L xs d 104 195 ls (.int x :: st) σ Q) := am_r_iaload d104_194
theorem r104_195  : am_Rn L xs d 104 195 ls st σ Q = am_la ls 0 (fun x => am_Rn L xs d 104 196 ls (x :: st) σ Q) := am_r_aload_n d104_195
theorem r104_196 {p : Nat} : am_Rn L xs d 104 196 ls (.ref p :: st) σ Q = am_fd σ p 6 25 (fun v => am_Rn L xs d 104 199 ls (v :: st) σ Q) := am_r_getfield d104_196 rfl
theorem r104_199  : am_Rn L xs d 104 199 ls st σ Q = am_Rn L xs d 104 200 ls (.int 0 :: st) σ Q := am_r_iconst d104_199 (by decide)
theorem r104_200 {p : Nat} {i : Int32} : am_Rn L xs d 104 200 ls (.int i :: .ref p :: st) σ Q = am_ai 0 σ p i (fun x => am_Rn L xs d 104 201 ls (.int x :: st) σ Q) := am_r_iaload d104_200
theorem r104_201 {a b : Int32} : am_Rn L xs d 104 201 ls (.int b :: .int a :: st) σ Q = am_Rn L xs d 104 202 ls (.int (a + b) :: st) σ Q := am_r_iadd d104_201
theorem r104_202 {p : Nat} {i x : Int32} : am_Rn L xs d 104 202 ls (.int x :: .int i :: .ref p :: st) σ Q = am_wi 0 σ p i x (fun σ1 => am_Rn L xs d 104 203 ls st σ1 Q) := am_r_iastore d104_202
theorem r104_203  : am_Rn L xs d 104 203 ls st σ Q = am_la ls 0 (fun x => am_Rn L xs d 104 204 ls (x :: st) σ Q) := am_r_aload_n d104_203
theorem r104_204 {p : Nat} : am_Rn L xs d 104 204 ls (.ref p :: st) σ Q = am_fd σ p 6 25 (fun v => am_Rn L xs d 104 207 ls (v :: st) σ Q) := am_r_getfield d104_204 rfl
theorem r104_207  : am_Rn L xs d 104 207 ls st σ Q = am_Rn L xs d 104 208 ls (.int 0 :: st) σ Q := am_r_iconst d104_207 (by decide)
theorem r104_208 {a b : Value} : am_Rn L xs d 104 208 ls (a :: b :: st) σ Q = ((am_ok a && am_ok b) = true ∧ am_Rn L xs d 104 209 ls (a :: b :: a :: b :: st) σ Q) := am_r_dup2 d104_208
theorem r104_209 {p : Nat} {i : Int32} : am_Rn L xs d 104 209 ls (.int i :: .ref p :: st) σ Q = am_ai 0 σ p i (fun x => am_Rn L xs d 104 210 ls (.int x :: st) σ Q) := am_r_iaload d104_209
theorem r104_210  : am_Rn L xs d 104 210 ls st σ Q = am_Rn L xs d 104 211 ls (.int 1 :: st) σ Q := am_r_iconst d104_210 (by decide)
theorem r104_211 {a b : Int32} : am_Rn L xs d 104 211 ls (.int b :: .int a :: st) σ Q = am_Rn L xs d 104 212 ls (.int (a + b) :: st) σ Q := am_r_iadd d104_211
theorem r104_212 {p : Nat} {i x : Int32} : am_Rn L xs d 104 212 ls (.int x :: .int i :: .ref p :: st) σ Q = am_wi 0 σ p i x (fun σ1 => am_Rn L xs d 104 213 ls st σ1 Q) := am_r_iastore d104_212
theorem r104_213  : am_Rn L xs d 104 213 ls st σ Q = am_la ls 0 (fun x => am_Rn L xs d 104 214 ls (x :: st) σ Q) := am_r_aload_n d104_213
theorem r104_214  : am_Rn L xs d 104 214 ls st σ Q = am_Rn L xs d 104 215 ls (.int 0 :: st) σ Q := am_r_iconst d104_214 (by decide)
theorem r104_215  : am_Rn L xs d 104 215 ls st σ Q = am_la ls 0 (fun x => am_Rn L xs d 104 216 ls (x :: st) σ Q) := am_r_aload_n d104_215
theorem r104_216 {p : Nat} : am_Rn L xs d 104 216 ls (.ref p :: st) σ Q = am_fd σ p 6 13 (fun v => am_Rn L xs d 104 219 ls (v :: st) σ Q) := am_r_getfield d104_216 rfl
theorem r104_219  : am_Rn L xs d 104 219 ls st σ Q = am_li ls 2 (fun x => am_Rn L xs d 104 220 ls (.int x :: st) σ Q) := am_r_iload_n d104_219
theorem r104_220 {p : Nat} {i : Int32} : am_Rn L xs d 104 220 ls (.int i :: .ref p :: st) σ Q = am_ai 0 σ p i (fun x => am_Rn L xs d 104 221 ls (.int x :: st) σ Q) := am_r_iaload d104_220
theorem r104_221  : am_Rn L xs d 104 221 ls st σ Q = am_li ls 3 (fun x => am_Rn L xs d 104 222 ls (.int x :: st) σ Q) := am_r_iload_n d104_221
theorem r104_222  : am_Rn L xs d 104 222 ls st σ Q = am_li ls 4 (fun x => am_Rn L xs d 104 224 ls (.int x :: st) σ Q) := am_r_iload d104_222
theorem r104_224  : am_Rn L xs d 104 224 ls st σ Q = am_la ls 0 (fun x => am_Rn L xs d 104 225 ls (x :: st) σ Q) := am_r_aload_n d104_224
theorem r104_225 {p : Nat} : am_Rn L xs d 104 225 ls (.ref p :: st) σ Q = am_fd σ p 6 2 (fun v => am_Rn L xs d 104 228 ls (v :: st) σ Q) := am_r_getfield d104_225 rfl
theorem r104_228  : am_Rn L xs d 104 228 ls st σ Q = am_Rn L xs d 104 230 ls (.int 12 :: st) σ Q := am_r_bipush d104_228 (by decide)
theorem r104_230  : am_Rn L xs d 104 230 ls st σ Q = am_la ls 0 (fun x => am_Rn L xs d 104 231 ls (x :: st) σ Q) := am_r_aload_n d104_230
theorem r104_231 {p : Nat} : am_Rn L xs d 104 231 ls (.ref p :: st) σ Q = am_fd σ p 6 17 (fun v => am_Rn L xs d 104 234 ls (v :: st) σ Q) := am_r_getfield d104_231 rfl
theorem r104_234 {a b : Int32} : am_Rn L xs d 104 234 ls (.int b :: .int a :: st) σ Q = am_Rn L xs d 104 235 ls (.int (a * b) :: st) σ Q := am_r_imul d104_234
theorem r104_235  : am_Rn L xs d 104 235 ls st σ Q = am_li ls 2 (fun x => am_Rn L xs d 104 236 ls (.int x :: st) σ Q) := am_r_iload_n d104_235
theorem r104_236 {a b : Int32} : am_Rn L xs d 104 236 ls (.int b :: .int a :: st) σ Q = am_Rn L xs d 104 237 ls (.int (a + b) :: st) σ Q := am_r_iadd d104_236
theorem r104_237 {p : Nat} {i : Int32} : am_Rn L xs d 104 237 ls (.int i :: .ref p :: st) σ Q = am_ai 0 σ p i (fun x => am_Rn L xs d 104 238 ls (.int x :: st) σ Q) := am_r_iaload d104_237
theorem r104_238  : am_Rn L xs d 104 238 ls st σ Q = am_la ls 0 (fun x => am_Rn L xs d 104 239 ls (x :: st) σ Q) := am_r_aload_n d104_238
theorem r104_239 {p : Nat} : am_Rn L xs d 104 239 ls (.ref p :: st) σ Q = am_fd σ p 6 3 (fun v => am_Rn L xs d 104 242 ls (v :: st) σ Q) := am_r_getfield d104_239 rfl
theorem r104_242  : am_Rn L xs d 104 242 ls st σ Q = am_Rn L xs d 104 244 ls (.int 12 :: st) σ Q := am_r_bipush d104_242 (by decide)
theorem r104_244  : am_Rn L xs d 104 244 ls st σ Q = am_la ls 0 (fun x => am_Rn L xs d 104 245 ls (x :: st) σ Q) := am_r_aload_n d104_244
theorem r104_245 {p : Nat} : am_Rn L xs d 104 245 ls (.ref p :: st) σ Q = am_fd σ p 6 17 (fun v => am_Rn L xs d 104 248 ls (v :: st) σ Q) := am_r_getfield d104_245 rfl
theorem r104_248 {a b : Int32} : am_Rn L xs d 104 248 ls (.int b :: .int a :: st) σ Q = am_Rn L xs d 104 249 ls (.int (a * b) :: st) σ Q := am_r_imul d104_248
theorem r104_249  : am_Rn L xs d 104 249 ls st σ Q = am_li ls 2 (fun x => am_Rn L xs d 104 250 ls (.int x :: st) σ Q) := am_r_iload_n d104_249
theorem r104_250 {a b : Int32} : am_Rn L xs d 104 250 ls (.int b :: .int a :: st) σ Q = am_Rn L xs d 104 251 ls (.int (a + b) :: st) σ Q := am_r_iadd d104_250
theorem r104_251 {p : Nat} {i : Int32} : am_Rn L xs d 104 251 ls (.int i :: .ref p :: st) σ Q = am_ai 0 σ p i (fun x => am_Rn L xs d 104 252 ls (.int x :: st) σ Q) := am_r_iaload d104_251
theorem r104_252 {a1 a2 a3 a4 a5 a6 : Value} {p : Nat} : am_Rn L xs (d + 1) 104 252 ls (a6 :: a5 :: a4 :: a3 :: a2 :: a1 :: .ref p :: st) σ Q = ((am_oc σ p = 6 ∧ st.length ≤ 4 ∧ am_ok a1 = true ∧ am_ok a2 = true ∧ am_ok a3 = true ∧ am_ok a4 = true ∧ am_ok a5 = true ∧ am_ok a6 = true) ∧ am_Call L xs d 107 [.ref p, a1, a2, a3, a4, a5, a6] σ (fun r σ1 => am_Rn L xs (d + 1) 104 255 ls (r.toList ++ st) σ1 Q)) := am_R_virtual6 d104_252 rfl ⟨by decide, rfl⟩ rfl rfl (by decide)
theorem r104_255  : am_Rn L xs d 104 255 ls st σ Q = am_Rn L xs d 104 352 ls st σ Q := am_r_goto d104_255 (by decide)
theorem r104_258  : am_Rn L xs d 104 258 ls st σ Q = am_la ls 0 (fun x => am_Rn L xs d 104 259 ls (x :: st) σ Q) := am_r_aload_n d104_258
theorem r104_259 {p : Nat} : am_Rn L xs d 104 259 ls (.ref p :: st) σ Q = am_fd σ p 6 5 (fun v => am_Rn L xs d 104 262 ls (v :: st) σ Q) := am_r_getfield d104_259 rfl
theorem r104_262  : am_Rn L xs d 104 262 ls st σ Q = am_li ls 2 (fun x => am_Rn L xs d 104 263 ls (.int x :: st) σ Q) := am_r_iload_n d104_262
theorem r104_263 {p : Nat} {i : Int32} : am_Rn L xs d 104 263 ls (.int i :: .ref p :: st) σ Q = am_ai 0 σ p i (fun x => am_Rn L xs d 104 264 ls (.int x :: st) σ Q) := am_r_iaload d104_263
theorem r104_264 {x : Int32} : am_Rn L xs d 104 264 ls (.int x :: st) σ Q = (5 < ls.length ∧ am_Rn L xs d 104 266 (ls.set 5 (.int x)) st σ Q) := am_r_istore d104_264
theorem r104_266  : am_Rn L xs d 104 266 ls st σ Q = am_la ls 0 (fun x => am_Rn L xs d 104 267 ls (x :: st) σ Q) := am_r_aload_n d104_266
theorem r104_267 {p : Nat} : am_Rn L xs d 104 267 ls (.ref p :: st) σ Q = am_fd σ p 6 13 (fun v => am_Rn L xs d 104 270 ls (v :: st) σ Q) := am_r_getfield d104_267 rfl
theorem r104_270  : am_Rn L xs d 104 270 ls st σ Q = am_li ls 2 (fun x => am_Rn L xs d 104 271 ls (.int x :: st) σ Q) := am_r_iload_n d104_270
theorem r104_271  : am_Rn L xs d 104 271 ls st σ Q = am_li ls 5 (fun x => am_Rn L xs d 104 273 ls (.int x :: st) σ Q) := am_r_iload d104_271
theorem r104_273 {p : Nat} {i x : Int32} : am_Rn L xs d 104 273 ls (.int x :: .int i :: .ref p :: st) σ Q = am_wi 0 σ p i x (fun σ1 => am_Rn L xs d 104 274 ls st σ1 Q) := am_r_iastore d104_273
theorem r104_274  : am_Rn L xs d 104 274 ls st σ Q = am_la ls 0 (fun x => am_Rn L xs d 104 275 ls (x :: st) σ Q) := am_r_aload_n d104_274
theorem r104_275 {p : Nat} : am_Rn L xs d 104 275 ls (.ref p :: st) σ Q = am_fd σ p 6 3 (fun v => am_Rn L xs d 104 278 ls (v :: st) σ Q) := am_r_getfield d104_275 rfl
theorem r104_278  : am_Rn L xs d 104 278 ls st σ Q = am_Rn L xs d 104 280 ls (.int 12 :: st) σ Q := am_r_bipush d104_278 (by decide)
theorem r104_280  : am_Rn L xs d 104 280 ls st σ Q = am_la ls 0 (fun x => am_Rn L xs d 104 281 ls (x :: st) σ Q) := am_r_aload_n d104_280
theorem r104_281 {p : Nat} : am_Rn L xs d 104 281 ls (.ref p :: st) σ Q = am_fd σ p 6 16 (fun v => am_Rn L xs d 104 284 ls (v :: st) σ Q) := am_r_getfield d104_281 rfl
theorem r104_284 {a b : Int32} : am_Rn L xs d 104 284 ls (.int b :: .int a :: st) σ Q = am_Rn L xs d 104 285 ls (.int (a * b) :: st) σ Q := am_r_imul d104_284
theorem r104_285  : am_Rn L xs d 104 285 ls st σ Q = am_li ls 5 (fun x => am_Rn L xs d 104 287 ls (.int x :: st) σ Q) := am_r_iload d104_285
theorem r104_287 {a b : Int32} : am_Rn L xs d 104 287 ls (.int b :: .int a :: st) σ Q = am_Rn L xs d 104 288 ls (.int (a + b) :: st) σ Q := am_r_iadd d104_287
theorem r104_288 {p : Nat} {i : Int32} : am_Rn L xs d 104 288 ls (.int i :: .ref p :: st) σ Q = am_ai 0 σ p i (fun x => am_Rn L xs d 104 289 ls (.int x :: st) σ Q) := am_r_iaload d104_288
theorem r104_289  : am_Rn L xs d 104 289 ls st σ Q = am_la ls 0 (fun x => am_Rn L xs d 104 290 ls (x :: st) σ Q) := am_r_aload_n d104_289
theorem r104_290 {p : Nat} : am_Rn L xs d 104 290 ls (.ref p :: st) σ Q = am_fd σ p 6 3 (fun v => am_Rn L xs d 104 293 ls (v :: st) σ Q) := am_r_getfield d104_290 rfl
theorem r104_293  : am_Rn L xs d 104 293 ls st σ Q = am_Rn L xs d 104 295 ls (.int 12 :: st) σ Q := am_r_bipush d104_293 (by decide)
theorem r104_295  : am_Rn L xs d 104 295 ls st σ Q = am_la ls 0 (fun x => am_Rn L xs d 104 296 ls (x :: st) σ Q) := am_r_aload_n d104_295
theorem r104_296 {p : Nat} : am_Rn L xs d 104 296 ls (.ref p :: st) σ Q = am_fd σ p 6 17 (fun v => am_Rn L xs d 104 299 ls (v :: st) σ Q) := am_r_getfield d104_296 rfl
theorem r104_299 {a b : Int32} : am_Rn L xs d 104 299 ls (.int b :: .int a :: st) σ Q = am_Rn L xs d 104 300 ls (.int (a * b) :: st) σ Q := am_r_imul d104_299
theorem r104_300  : am_Rn L xs d 104 300 ls st σ Q = am_li ls 2 (fun x => am_Rn L xs d 104 301 ls (.int x :: st) σ Q) := am_r_iload_n d104_300
theorem r104_301 {a b : Int32} : am_Rn L xs d 104 301 ls (.int b :: .int a :: st) σ Q = am_Rn L xs d 104 302 ls (.int (a + b) :: st) σ Q := am_r_iadd d104_301
theorem r104_302 {p : Nat} {i : Int32} : am_Rn L xs d 104 302 ls (.int i :: .ref p :: st) σ Q = am_ai 0 σ p i (fun x => am_Rn L xs d 104 303 ls (.int x :: st) σ Q) := am_r_iaload d104_302
theorem r104_303 {a b : Int32} : am_Rn L xs d 104 303 ls (.int b :: .int a :: st) σ Q = if a = b then am_Rn L xs d 104 330 ls st σ Q else am_Rn L xs d 104 306 ls st σ Q := (am_r_icmp (t := 330) d104_303 (by decide)).trans (am_ite _ _ trivial (by simp only [am_cond, decide_eq_true_eq]))
theorem r104_306  : am_Rn L xs d 104 306 ls st σ Q = am_la ls 0 (fun x => am_Rn L xs d 104 307 ls (x :: st) σ Q) := am_r_aload_n d104_306
theorem r104_307  : am_Rn L xs d 104 307 ls st σ Q = am_Rn L xs d 104 308 ls (.int 1 :: st) σ Q := am_r_iconst d104_307 (by decide)
theorem r104_308  : am_Rn L xs d 104 308 ls st σ Q = am_li ls 5 (fun x => am_Rn L xs d 104 310 ls (.int x :: st) σ Q) := am_r_iload d104_308
theorem r104_310  : am_Rn L xs d 104 310 ls st σ Q = am_Rn L xs d 104 311 ls (.int (-1) :: st) σ Q := am_r_iconst d104_310 (by decide)
theorem r104_311  : am_Rn L xs d 104 311 ls st σ Q = am_Rn L xs d 104 312 ls (.int (-1) :: st) σ Q := am_r_iconst d104_311 (by decide)
theorem r104_312  : am_Rn L xs d 104 312 ls st σ Q = am_Rn L xs d 104 313 ls (.int (-1) :: st) σ Q := am_r_iconst d104_312 (by decide)
theorem r104_313  : am_Rn L xs d 104 313 ls st σ Q = am_la ls 0 (fun x => am_Rn L xs d 104 314 ls (x :: st) σ Q) := am_r_aload_n d104_313
theorem r104_314 {p : Nat} : am_Rn L xs d 104 314 ls (.ref p :: st) σ Q = am_fd σ p 6 3 (fun v => am_Rn L xs d 104 317 ls (v :: st) σ Q) := am_r_getfield d104_314 rfl
theorem r104_317  : am_Rn L xs d 104 317 ls st σ Q = am_Rn L xs d 104 319 ls (.int 12 :: st) σ Q := am_r_bipush d104_317 (by decide)
theorem r104_319  : am_Rn L xs d 104 319 ls st σ Q = am_la ls 0 (fun x => am_Rn L xs d 104 320 ls (x :: st) σ Q) := am_r_aload_n d104_319
theorem r104_320 {p : Nat} : am_Rn L xs d 104 320 ls (.ref p :: st) σ Q = am_fd σ p 6 17 (fun v => am_Rn L xs d 104 323 ls (v :: st) σ Q) := am_r_getfield d104_320 rfl
theorem r104_323 {a b : Int32} : am_Rn L xs d 104 323 ls (.int b :: .int a :: st) σ Q = am_Rn L xs d 104 324 ls (.int (a * b) :: st) σ Q := am_r_imul d104_323
theorem r104_324  : am_Rn L xs d 104 324 ls st σ Q = am_li ls 2 (fun x => am_Rn L xs d 104 325 ls (.int x :: st) σ Q) := am_r_iload_n d104_324
theorem r104_325 {a b : Int32} : am_Rn L xs d 104 325 ls (.int b :: .int a :: st) σ Q = am_Rn L xs d 104 326 ls (.int (a + b) :: st) σ Q := am_r_iadd d104_325
theorem r104_326 {p : Nat} {i : Int32} : am_Rn L xs d 104 326 ls (.int i :: .ref p :: st) σ Q = am_ai 0 σ p i (fun x => am_Rn L xs d 104 327 ls (.int x :: st) σ Q) := am_r_iaload d104_326
theorem r104_327 {a1 a2 a3 a4 a5 a6 : Value} {p : Nat} : am_Rn L xs (d + 1) 104 327 ls (a6 :: a5 :: a4 :: a3 :: a2 :: a1 :: .ref p :: st) σ Q = ((am_oc σ p = 6 ∧ st.length ≤ 4 ∧ am_ok a1 = true ∧ am_ok a2 = true ∧ am_ok a3 = true ∧ am_ok a4 = true ∧ am_ok a5 = true ∧ am_ok a6 = true) ∧ am_Call L xs d 107 [.ref p, a1, a2, a3, a4, a5, a6] σ (fun r σ1 => am_Rn L xs (d + 1) 104 330 ls (r.toList ++ st) σ1 Q)) := am_R_virtual6 d104_327 rfl ⟨by decide, rfl⟩ rfl rfl (by decide)
theorem r104_330  : am_Rn L xs d 104 330 ls st σ Q = am_la ls 0 (fun x => am_Rn L xs d 104 331 ls (x :: st) σ Q) := am_r_aload_n d104_330
theorem r104_331 {p : Nat} : am_Rn L xs d 104 331 ls (.ref p :: st) σ Q = am_fd σ p 6 12 (fun v => am_Rn L xs d 104 334 ls (v :: st) σ Q) := am_r_getfield d104_331 rfl
theorem r104_334  : am_Rn L xs d 104 334 ls st σ Q = am_li ls 5 (fun x => am_Rn L xs d 104 336 ls (.int x :: st) σ Q) := am_r_iload d104_334
theorem r104_336 {p : Nat} {i : Int32} : am_Rn L xs d 104 336 ls (.int i :: .ref p :: st) σ Q = am_ai 1 σ p i (fun x => am_Rn L xs d 104 337 ls (.int x :: st) σ Q) := am_r_baload d104_336
theorem r104_337 {a : Int32} : am_Rn L xs d 104 337 ls (.int a :: st) σ Q = if ¬ a = 0 then am_Rn L xs d 104 352 ls st σ Q else am_Rn L xs d 104 340 ls st σ Q := (am_r_if (t := 352) d104_337 (by decide)).trans (am_ite _ _ trivial (by simp only [am_cond, decide_eq_true_eq]))
theorem r104_340  : am_Rn L xs d 104 340 ls st σ Q = am_la ls 0 (fun x => am_Rn L xs d 104 341 ls (x :: st) σ Q) := am_r_aload_n d104_340
theorem r104_341  : am_Rn L xs d 104 341 ls st σ Q = am_Rn L xs d 104 342 ls (.int 2 :: st) σ Q := am_r_iconst d104_341 (by decide)
theorem r104_342  : am_Rn L xs d 104 342 ls st σ Q = am_li ls 5 (fun x => am_Rn L xs d 104 344 ls (.int x :: st) σ Q) := am_r_iload d104_342
theorem r104_344  : am_Rn L xs d 104 344 ls st σ Q = am_li ls 3 (fun x => am_Rn L xs d 104 345 ls (.int x :: st) σ Q) := am_r_iload_n d104_344
theorem r104_345  : am_Rn L xs d 104 345 ls st σ Q = am_li ls 4 (fun x => am_Rn L xs d 104 347 ls (.int x :: st) σ Q) := am_r_iload d104_345
theorem r104_347  : am_Rn L xs d 104 347 ls st σ Q = am_Rn L xs d 104 348 ls (.int (-1) :: st) σ Q := am_r_iconst d104_347 (by decide)
theorem r104_348  : am_Rn L xs d 104 348 ls st σ Q = am_Rn L xs d 104 349 ls (.int 0 :: st) σ Q := am_r_iconst d104_348 (by decide)
theorem r104_349 {a1 a2 a3 a4 a5 a6 : Value} {p : Nat} : am_Rn L xs (d + 1) 104 349 ls (a6 :: a5 :: a4 :: a3 :: a2 :: a1 :: .ref p :: st) σ Q = ((am_oc σ p = 6 ∧ st.length ≤ 4 ∧ am_ok a1 = true ∧ am_ok a2 = true ∧ am_ok a3 = true ∧ am_ok a4 = true ∧ am_ok a5 = true ∧ am_ok a6 = true) ∧ am_Call L xs d 107 [.ref p, a1, a2, a3, a4, a5, a6] σ (fun r σ1 => am_Rn L xs (d + 1) 104 352 ls (r.toList ++ st) σ1 Q)) := am_R_virtual6 d104_349 rfl ⟨by decide, rfl⟩ rfl rfl (by decide)
theorem r104_352  : am_Rn L xs d 104 352 ls st σ Q = am_li ls 1 (fun x => am_Rn L xs d 104 355 (ls.set 1 (.int (x + 1))) st σ Q) := am_r_iinc d104_352 (by decide)
theorem r104_355  : am_Rn L xs d 104 355 ls st σ Q = am_Rn L xs d 104 67 ls st σ Q := am_r_goto d104_355 (by decide)
theorem r104_358  : am_Rn L xs d 104 358 ls st σ Q = am_la ls 0 (fun x => am_Rn L xs d 104 359 ls (x :: st) σ Q) := am_r_aload_n d104_358
theorem r104_359 {p : Nat} : am_Rn L xs d 104 359 ls (.ref p :: st) σ Q = am_fd σ p 6 0 (fun v => am_Rn L xs d 104 362 ls (v :: st) σ Q) := am_r_getfield d104_359 rfl
theorem r104_362  : am_Rn L xs d 104 362 ls st σ Q = am_la ls 0 (fun x => am_Rn L xs d 104 363 ls (x :: st) σ Q) := am_r_aload_n d104_362
theorem r104_363 {p : Nat} : am_Rn L xs d 104 363 ls (.ref p :: st) σ Q = am_fd σ p 6 16 (fun v => am_Rn L xs d 104 366 ls (v :: st) σ Q) := am_r_getfield d104_363 rfl
theorem r104_366 {p : Nat} {i : Int32} : am_Rn L xs d 104 366 ls (.int i :: .ref p :: st) σ Q = am_ai 0 σ p i (fun x => am_Rn L xs d 104 367 ls (.int x :: st) σ Q) := am_r_iaload d104_366
theorem r104_367  : am_Rn L xs d 104 367 ls st σ Q = am_Rn L xs d 104 368 ls (.int 1 :: st) σ Q := am_r_iconst d104_367 (by decide)
theorem r104_368 {a b : Int32} : am_Rn L xs d 104 368 ls (.int b :: .int a :: st) σ Q = am_Rn L xs d 104 369 ls (.int (a - b) :: st) σ Q := am_r_isub d104_368
theorem r104_369 {x : Int32} : am_Rn L xs d 104 369 ls (.int x :: st) σ Q = (1 < ls.length ∧ am_Rn L xs d 104 370 (ls.set 1 (.int x)) st σ Q) := am_r_istore_n d104_369
theorem r104_370  : am_Rn L xs d 104 370 ls st σ Q = am_li ls 1 (fun x => am_Rn L xs d 104 371 ls (.int x :: st) σ Q) := am_r_iload_n d104_370
theorem r104_371 {a : Int32} : am_Rn L xs d 104 371 ls (.int a :: st) σ Q = if a < 0 then am_Rn L xs d 104 399 ls st σ Q else am_Rn L xs d 104 374 ls st σ Q := (am_r_if (t := 399) d104_371 (by decide)).trans (am_ite _ _ trivial (by simp only [am_cond, decide_eq_true_eq]))
theorem r104_374  : am_Rn L xs d 104 374 ls st σ Q = am_la ls 0 (fun x => am_Rn L xs d 104 375 ls (x :: st) σ Q) := am_r_aload_n d104_374
theorem r104_375 {p : Nat} : am_Rn L xs d 104 375 ls (.ref p :: st) σ Q = am_fd σ p 6 4 (fun v => am_Rn L xs d 104 378 ls (v :: st) σ Q) := am_r_getfield d104_375 rfl
theorem r104_378  : am_Rn L xs d 104 378 ls st σ Q = am_li ls 1 (fun x => am_Rn L xs d 104 379 ls (.int x :: st) σ Q) := am_r_iload_n d104_378
theorem r104_379 {p : Nat} {i : Int32} : am_Rn L xs d 104 379 ls (.int i :: .ref p :: st) σ Q = am_ai 0 σ p i (fun x => am_Rn L xs d 104 380 ls (.int x :: st) σ Q) := am_r_iaload d104_379
theorem r104_380 {a : Int32} : am_Rn L xs d 104 380 ls (.int a :: st) σ Q = if 0 ≤ a then am_Rn L xs d 104 393 ls st σ Q else am_Rn L xs d 104 383 ls st σ Q := (am_r_if (t := 393) d104_380 (by decide)).trans (am_ite _ _ trivial (by simp only [am_cond, decide_eq_true_eq]))
theorem r104_383  : am_Rn L xs d 104 383 ls st σ Q = am_la ls 0 (fun x => am_Rn L xs d 104 384 ls (x :: st) σ Q) := am_r_aload_n d104_383
theorem r104_384  : am_Rn L xs d 104 384 ls st σ Q = am_Rn L xs d 104 385 ls (.int 3 :: st) σ Q := am_r_iconst d104_384 (by decide)
theorem r104_385  : am_Rn L xs d 104 385 ls st σ Q = am_li ls 1 (fun x => am_Rn L xs d 104 386 ls (.int x :: st) σ Q) := am_r_iload_n d104_385
theorem r104_386  : am_Rn L xs d 104 386 ls st σ Q = am_Rn L xs d 104 387 ls (.int (-1) :: st) σ Q := am_r_iconst d104_386 (by decide)
theorem r104_387  : am_Rn L xs d 104 387 ls st σ Q = am_Rn L xs d 104 388 ls (.int (-1) :: st) σ Q := am_r_iconst d104_387 (by decide)
theorem r104_388  : am_Rn L xs d 104 388 ls st σ Q = am_Rn L xs d 104 389 ls (.int (-1) :: st) σ Q := am_r_iconst d104_388 (by decide)
theorem r104_389  : am_Rn L xs d 104 389 ls st σ Q = am_Rn L xs d 104 390 ls (.int 0 :: st) σ Q := am_r_iconst d104_389 (by decide)
theorem r104_390 {a1 a2 a3 a4 a5 a6 : Value} {p : Nat} : am_Rn L xs (d + 1) 104 390 ls (a6 :: a5 :: a4 :: a3 :: a2 :: a1 :: .ref p :: st) σ Q = ((am_oc σ p = 6 ∧ st.length ≤ 4 ∧ am_ok a1 = true ∧ am_ok a2 = true ∧ am_ok a3 = true ∧ am_ok a4 = true ∧ am_ok a5 = true ∧ am_ok a6 = true) ∧ am_Call L xs d 107 [.ref p, a1, a2, a3, a4, a5, a6] σ (fun r σ1 => am_Rn L xs (d + 1) 104 393 ls (r.toList ++ st) σ1 Q)) := am_R_virtual6 d104_390 rfl ⟨by decide, rfl⟩ rfl rfl (by decide)
theorem r104_393  : am_Rn L xs d 104 393 ls st σ Q = am_li ls 1 (fun x => am_Rn L xs d 104 396 (ls.set 1 (.int (x + (-1)))) st σ Q) := am_r_iinc d104_393 (by decide)
theorem r104_396  : am_Rn L xs d 104 396 ls st σ Q = am_Rn L xs d 104 370 ls st σ Q := am_r_goto d104_396 (by decide)
theorem r104_399  : am_Rn L xs d 104 399 ls [] σ Q = Q none σ := am_r_return d104_399 rfl
end
