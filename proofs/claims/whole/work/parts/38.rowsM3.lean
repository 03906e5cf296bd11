/-! Rows of the program's instructions, written by program (wip/gen/gen_rows.py) -/
section
variable {L : Nat} {xs : Nat → Int32} {d : Nat} {ls st : List Value} {σ : am_S} {Q : Option Value → am_S → Prop}
theorem d105_0 : decode (pg_code 105) 0 = .ok (.iconst 0, 1) := by decide +kernel
theorem d105_1 : decode (pg_code 105) 1 = .ok (.istore_n 2, 1) := by decide +kernel
theorem d105_2 : decode (pg_code 105) 2 = .ok (.iconst 0, 1) := by decide +kernel
theorem d105_3 : decode (pg_code 105) 3 = .ok (.istore_n 3, 1) := by decide +kernel
theorem d105_4 : decode (pg_code 105) 4 = .ok (.iload_n 3, 1) := by decide +kernel
theorem d105_5 : decode (pg_code 105) 5 = .ok (.aload_n 0, 1) := by decide +kernel
theorem d105_6 : decode (pg_code 105) 6 = .ok (.getfield 7, 3) := by decide +kernel
theorem d105_9 : decode (pg_code 105) 9 = .ok (.aload_n 0, 1) := by decide +kernel
theorem d105_10 : decode (pg_code 105) 10 = .ok (.getfield 129, 3) := by decide +kernel
theorem d105_13 : decode (pg_code 105) 13 = .ok (.iaload, 1) := by decide +kernel
theorem d105_14 : decode (pg_code 105) 14 = .ok (.if_icmp .ge 111, 3) := by decide +kernel
theorem d105_17 : decode (pg_code 105) 17 = .ok (.aload_n 0, 1) := by decide +kernel
theorem d105_18 : decode (pg_code 105) 18 = .ok (.getfield 13, 3) := by decide +kernel
theorem d105_21 : decode (pg_code 105) 21 = .ok (.bipush 12, 2) := by decide +kernel
theorem d105_23 : decode (pg_code 105) 23 = .ok (.aload_n 0, 1) := by decide +kernel
theorem d105_24 : decode (pg_code 105) 24 = .ok (.getfield 129, 3) := by decide +kernel
theorem d105_27 : decode (pg_code 105) 27 = .ok (.imul, 1) := by decide +kernel
theorem d105_28 : decode (pg_code 105) 28 = .ok (.iload_n 3, 1) := by decide +kernel
theorem d105_29 : decode (pg_code 105) 29 = .ok (.iadd, 1) := by decide +kernel
theorem d105_30 : decode (pg_code 105) 30 = .ok (.iaload, 1) := by decide +kernel
theorem d105_31 : decode (pg_code 105) 31 = .ok (.istore 4, 2) := by decide +kernel
theorem d105_33 : decode (pg_code 105) 33 = .ok (.iload 4, 2) := by decide +kernel
theorem d105_35 : decode (pg_code 105) 35 = .ok (.iload_n 1, 1) := by decide +kernel
theorem d105_36 : decode (pg_code 105) 36 = .ok (.if_icmp .ne 52, 3) := by decide +kernel
theorem d105_39 : decode (pg_code 105) 39 = .ok (.aload_n 0, 1) := by decide +kernel
theorem d105_40 : decode (pg_code 105) 40 = .ok (.getfield 22, 3) := by decide +kernel
theorem d105_43 : decode (pg_code 105) 43 = .ok (.iload_n 3, 1) := by decide +kernel
theorem d105_44 : decode (pg_code 105) 44 = .ok (.iaload, 1) := by decide +kernel
theorem d105_45 : decode (pg_code 105) 45 = .ok (.ifCond .lt 43, 3) := by decide +kernel
theorem d105_48 : decode (pg_code 105) 48 = .ok (.aload_n 0, 1) := by decide +kernel
theorem d105_49 : decode (pg_code 105) 49 = .ok (.getfield 13, 3) := by decide +kernel
theorem d105_52 : decode (pg_code 105) 52 = .ok (.bipush 12, 2) := by decide +kernel
theorem d105_54 : decode (pg_code 105) 54 = .ok (.aload_n 0, 1) := by decide +kernel
theorem d105_55 : decode (pg_code 105) 55 = .ok (.getfield 141, 3) := by decide +kernel
theorem d105_58 : decode (pg_code 105) 58 = .ok (.imul, 1) := by decide +kernel
theorem d105_59 : decode (pg_code 105) 59 = .ok (.aload_n 0, 1) := by decide +kernel
theorem d105_60 : decode (pg_code 105) 60 = .ok (.getfield 22, 3) := by decide +kernel
theorem d105_63 : decode (pg_code 105) 63 = .ok (.iload_n 3, 1) := by decide +kernel
theorem d105_64 : decode (pg_code 105) 64 = .ok (.iaload, 1) := by decide +kernel
theorem d105_65 : decode (pg_code 105) 65 = .ok (.iadd, 1) := by decide +kernel
theorem d105_66 : decode (pg_code 105) 66 = .ok (.iaload, 1) := by decide +kernel
theorem d105_67 : decode (pg_code 105) 67 = .ok (.iload_n 1, 1) := by decide +kernel
theorem d105_68 : decode (pg_code 105) 68 = .ok (.ifCond .ge 7, 3) := by decide +kernel
theorem d105_71 : decode (pg_code 105) 71 = .ok (.iconst (-1), 1) := by decide +kernel
theorem d105_72 : decode (pg_code 105) 72 = .ok (.goto 9, 3) := by decide +kernel
theorem d105_75 : decode (pg_code 105) 75 = .ok (.aload_n 0, 1) := by decide +kernel
theorem d105_76 : decode (pg_code 105) 76 = .ok (.getfield 22, 3) := by decide +kernel
theorem d105_79 : decode (pg_code 105) 79 = .ok (.iload_n 1, 1) := by decide +kernel
theorem d105_80 : decode (pg_code 105) 80 = .ok (.iaload, 1) := by decide +kernel
theorem d105_81 : decode (pg_code 105) 81 = .ok (.if_icmp .ne 7, 3) := by decide +kernel
theorem d105_84 : decode (pg_code 105) 84 = .ok (.iconst 1, 1) := by decide +kernel
theorem d105_85 : decode (pg_code 105) 85 = .ok (.goto 4, 3) := by decide +kernel
theorem d105_88 : decode (pg_code 105) 88 = .ok (.iconst 0, 1) := by decide +kernel
theorem d105_89 : decode (pg_code 105) 89 = .ok (.istore 5, 2) := by decide +kernel
theorem d105_91 : decode (pg_code 105) 91 = .ok (.iload 5, 2) := by decide +kernel
theorem d105_93 : decode (pg_code 105) 93 = .ok (.ifCond .eq 26, 3) := by decide +kernel
theorem d105_96 : decode (pg_code 105) 96 = .ok (.iload_n 1, 1) := by decide +kernel
theorem d105_97 : decode (pg_code 105) 97 = .ok (.ifCond .lt 12, 3) := by decide +kernel
theorem d105_100 : decode (pg_code 105) 100 = .ok (.aload_n 0, 1) := by decide +kernel
theorem d105_101 : decode (pg_code 105) 101 = .ok (.getfield 22, 3) := by decide +kernel
theorem d105_104 : decode (pg_code 105) 104 = .ok (.iload_n 1, 1) := by decide +kernel
theorem d105_105 : decode (pg_code 105) 105 = .ok (.iaload, 1) := by decide +kernel
theorem d105_106 : decode (pg_code 105) 106 = .ok (.ifCond .lt 13, 3) := by decide +kernel
theorem d105_109 : decode (pg_code 105) 109 = .ok (.aload_n 0, 1) := by decide +kernel
theorem d105_110 : decode (pg_code 105) 110 = .ok (.getfield 56, 3) := by decide +kernel
theorem d105_113 : decode (pg_code 105) 113 = .ok (.iload_n 2, 1) := by decide +kernel
theorem d105_114 : decode (pg_code 105) 114 = .ok (.iload_n 3, 1) := by decide +kernel
theorem d105_115 : decode (pg_code 105) 115 = .ok (.iastore, 1) := by decide +kernel
theorem d105_116 : decode (pg_code 105) 116 = .ok (.iinc 2 1, 3) := by decide +kernel
theorem d105_119 : decode (pg_code 105) 119 = .ok (.iinc 3 1, 3) := by decide +kernel
theorem d105_122 : decode (pg_code 105) 122 = .ok (.goto (-118), 3) := by decide +kernel
theorem d105_125 : decode (pg_code 105) 125 = .ok (.iconst 0, 1) := by decide +kernel
theorem d105_126 : decode (pg_code 105) 126 = .ok (.istore_n 3, 1) := by decide +kernel
theorem d105_127 : decode (pg_code 105) 127 = .ok (.iconst 0, 1) := by decide +kernel
theorem d105_128 : decode (pg_code 105) 128 = .ok (.istore 4, 2) := by decide +kernel
theorem d105_130 : decode (pg_code 105) 130 = .ok (.iconst 0, 1) := by decide +kernel
theorem d105_131 : decode (pg_code 105) 131 = .ok (.istore 5, 2) := by decide +kernel
theorem d105_133 : decode (pg_code 105) 133 = .ok (.iload 5, 2) := by decide +kernel
theorem d105_135 : decode (pg_code 105) 135 = .ok (.iconst 1, 1) := by decide +kernel
theorem d105_136 : decode (pg_code 105) 136 = .ok (.iload_n 2, 1) := by decide +kernel
theorem d105_137 : decode (pg_code 105) 137 = .ok (.ishl, 1) := by decide +kernel
theorem d105_138 : decode (pg_code 105) 138 = .ok (.if_icmp .ge 139, 3) := by decide +kernel
theorem d105_141 : decode (pg_code 105) 141 = .ok (.iconst (-1), 1) := by decide +kernel
theorem d105_142 : decode (pg_code 105) 142 = .ok (.istore 6, 2) := by decide +kernel
theorem d105_144 : decode (pg_code 105) 144 = .ok (.iconst 0, 1) := by decide +kernel
theorem d105_145 : decode (pg_code 105) 145 = .ok (.istore 7, 2) := by decide +kernel
theorem d105_147 : decode (pg_code 105) 147 = .ok (.iconst 0, 1) := by decide +kernel
theorem d105_148 : decode (pg_code 105) 148 = .ok (.istore 8, 2) := by decide +kernel
theorem d105_150 : decode (pg_code 105) 150 = .ok (.iload 8, 2) := by decide +kernel
theorem d105_152 : decode (pg_code 105) 152 = .ok (.iload_n 2, 1) := by decide +kernel
theorem d105_153 : decode (pg_code 105) 153 = .ok (.if_icmp .ge 62, 3) := by decide +kernel
theorem d105_156 : decode (pg_code 105) 156 = .ok (.iload 5, 2) := by decide +kernel
theorem d105_158 : decode (pg_code 105) 158 = .ok (.iload 8, 2) := by decide +kernel
theorem d105_160 : decode (pg_code 105) 160 = .ok (.ishr, 1) := by decide +kernel
theorem d105_161 : decode (pg_code 105) 161 = .ok (.iconst 1, 1) := by decide +kernel
theorem d105_162 : decode (pg_code 105) 162 = .ok (.iand, 1) := by decide +kernel
theorem d105_163 : decode (pg_code 105) 163 = .ok (.iconst 1, 1) := by decide +kernel
theorem d105_164 : decode (pg_code 105) 164 = .ok (.if_icmp .ne 45, 3) := by decide +kernel
theorem d105_167 : decode (pg_code 105) 167 = .ok (.iload 6, 2) := by decide +kernel
theorem d105_169 : decode (pg_code 105) 169 = .ok (.aload_n 0, 1) := by decide +kernel
theorem d105_170 : decode (pg_code 105) 170 = .ok (.getfield 22, 3) := by decide +kernel
theorem d105_173 : decode (pg_code 105) 173 = .ok (.aload_n 0, 1) := by decide +kernel
theorem d105_174 : decode (pg_code 105) 174 = .ok (.getfield 56, 3) := by decide +kernel
theorem d105_177 : decode (pg_code 105) 177 = .ok (.iload 8, 2) := by decide +kernel
theorem d105_179 : decode (pg_code 105) 179 = .ok (.iaload, 1) := by decide +kernel
theorem d105_180 : decode (pg_code 105) 180 = .ok (.iaload, 1) := by decide +kernel
theorem d105_181 : decode (pg_code 105) 181 = .ok (.if_icmp .ge 10, 3) := by decide +kernel
theorem d105_184 : decode (pg_code 105) 184 = .ok (.iload 7, 2) := by decide +kernel
theorem d105_186 : decode (pg_code 105) 186 = .ok (.iconst 1, 1) := by decide +kernel
theorem d105_187 : decode (pg_code 105) 187 = .ok (.iadd, 1) := by decide +kernel
theorem d105_188 : decode (pg_code 105) 188 = .ok (.goto 5, 3) := by decide +kernel
theorem d105_191 : decode (pg_code 105) 191 = .ok (.bipush (-20), 2) := by decide +kernel
theorem d105_193 : decode (pg_code 105) 193 = .ok (.istore 7, 2) := by decide +kernel
theorem d105_195 : decode (pg_code 105) 195 = .ok (.aload_n 0, 1) := by decide +kernel
theorem d105_196 : decode (pg_code 105) 196 = .ok (.getfield 22, 3) := by decide +kernel
theorem d105_199 : decode (pg_code 105) 199 = .ok (.aload_n 0, 1) := by decide +kernel
theorem d105_200 : decode (pg_code 105) 200 = .ok (.getfield 56, 3) := by decide +kernel
theorem d105_203 : decode (pg_code 105) 203 = .ok (.iload 8, 2) := by decide +kernel
theorem d105_205 : decode (pg_code 105) 205 = .ok (.iaload, 1) := by decide +kernel
theorem d105_206 : decode (pg_code 105) 206 = .ok (.iaload, 1) := by decide +kernel
theorem d105_207 : decode (pg_code 105) 207 = .ok (.istore 6, 2) := by decide +kernel
theorem d105_209 : decode (pg_code 105) 209 = .ok (.iinc 8 1, 3) := by decide +kernel
theorem d105_212 : decode (pg_code 105) 212 = .ok (.goto (-62), 3) := by decide +kernel
theorem d105_215 : decode (pg_code 105) 215 = .ok (.iload 5, 2) := by decide +kernel
theorem d105_217 : decode (pg_code 105) 217 = .ok (.iload_n 3, 1) := by decide +kernel
theorem d105_218 : decode (pg_code 105) 218 = .ok (.ixor, 1) := by decide +kernel
theorem d105_219 : decode (pg_code 105) 219 = .ok (.istore 8, 2) := by decide +kernel
theorem d105_221 : decode (pg_code 105) 221 = .ok (.iload 5, 2) := by decide +kernel
theorem d105_223 : decode (pg_code 105) 223 = .ok (.iload 8, 2) := by decide +kernel
theorem d105_225 : decode (pg_code 105) 225 = .ok (.iand, 1) := by decide +kernel
theorem d105_226 : decode (pg_code 105) 226 = .ok (.iload 8, 2) := by decide +kernel
theorem d105_228 : decode (pg_code 105) 228 = .ok (.ineg, 1) := by decide +kernel
theorem d105_229 : decode (pg_code 105) 229 = .ok (.iand, 1) := by decide +kernel
theorem d105_230 : decode (pg_code 105) 230 = .ok (.ifCond .eq 7, 3) := by decide +kernel
theorem d105_233 : decode (pg_code 105) 233 = .ok (.iconst 1, 1) := by decide +kernel
theorem d105_234 : decode (pg_code 105) 234 = .ok (.goto 4, 3) := by decide +kernel
theorem d105_237 : decode (pg_code 105) 237 = .ok (.iconst 0, 1) := by decide +kernel
theorem d105_238 : decode (pg_code 105) 238 = .ok (.istore 9, 2) := by decide +kernel
theorem d105_240 : decode (pg_code 105) 240 = .ok (.iload 7, 2) := by decide +kernel
theorem d105_242 : decode (pg_code 105) 242 = .ok (.iload 4, 2) := by decide +kernel
theorem d105_244 : decode (pg_code 105) 244 = .ok (.if_icmp .gt 20, 3) := by decide +kernel
theorem d105_247 : decode (pg_code 105) 247 = .ok (.iload 7, 2) := by decide +kernel
theorem d105_249 : decode (pg_code 105) 249 = .ok (.iload 4, 2) := by decide +kernel
theorem d105_251 : decode (pg_code 105) 251 = .ok (.if_icmp .ne 20, 3) := by decide +kernel
theorem d105_254 : decode (pg_code 105) 254 = .ok (.iload 7, 2) := by decide +kernel
theorem d105_256 : decode (pg_code 105) 256 = .ok (.ifCond .le 15, 3) := by decide +kernel
theorem d105_259 : decode (pg_code 105) 259 = .ok (.iload 9, 2) := by decide +kernel
theorem d105_261 : decode (pg_code 105) 261 = .ok (.ifCond .eq 10, 3) := by decide +kernel
theorem d105_264 : decode (pg_code 105) 264 = .ok (.iload 5, 2) := by decide +kernel
theorem d105_266 : decode (pg_code 105) 266 = .ok (.istore_n 3, 1) := by decide +kernel
theorem d105_267 : decode (pg_code 105) 267 = .ok (.iload 7, 2) := by decide +kernel
theorem d105_269 : decode (pg_code 105) 269 = .ok (.istore 4, 2) := by decide +kernel
theorem d105_271 : decode (pg_code 105) 271 = .ok (.iinc 5 1, 3) := by decide +kernel
theorem d105_274 : decode (pg_code 105) 274 = .ok (.goto (-141), 3) := by decide +kernel
theorem d105_277 : decode (pg_code 105) 277 = .ok (.iconst 0, 1) := by decide +kernel
theorem d105_278 : decode (pg_code 105) 278 = .ok (.istore 5, 2) := by decide +kernel
theorem d105_280 : decode (pg_code 105) 280 = .ok (.iload 5, 2) := by decide +kernel
theorem d105_282 : decode (pg_code 105) 282 = .ok (.iload_n 2, 1) := by decide +kernel
theorem d105_283 : decode (pg_code 105) 283 = .ok (.if_icmp .ge 36, 3) := by decide +kernel
theorem d105_286 : decode (pg_code 105) 286 = .ok (.aload_n 0, 1) := by decide +kernel
theorem d105_287 : decode (pg_code 105) 287 = .ok (.getfield 47, 3) := by decide +kernel
theorem d105_290 : decode (pg_code 105) 290 = .ok (.aload_n 0, 1) := by decide +kernel
theorem d105_291 : decode (pg_code 105) 291 = .ok (.getfield 56, 3) := by decide +kernel
theorem d105_294 : decode (pg_code 105) 294 = .ok (.iload 5, 2) := by decide +kernel
theorem d105_296 : decode (pg_code 105) 296 = .ok (.iaload, 1) := by decide +kernel
theorem d105_297 : decode (pg_code 105) 297 = .ok (.iload_n 3, 1) := by decide +kernel
theorem d105_298 : decode (pg_code 105) 298 = .ok (.iload 5, 2) := by decide +kernel
theorem d105_300 : decode (pg_code 105) 300 = .ok (.ishr, 1) := by decide +kernel
theorem d105_301 : decode (pg_code 105) 301 = .ok (.iconst 1, 1) := by decide +kernel
theorem d105_302 : decode (pg_code 105) 302 = .ok (.iand, 1) := by decide +kernel
theorem d105_303 : decode (pg_code 105) 303 = .ok (.iconst 1, 1) := by decide +kernel
theorem d105_304 : decode (pg_code 105) 304 = .ok (.if_icmp .ne 7, 3) := by decide +kernel
theorem d105_307 : decode (pg_code 105) 307 = .ok (.iconst 1, 1) := by decide +kernel
theorem d105_308 : decode (pg_code 105) 308 = .ok (.goto 4, 3) := by decide +kernel
theorem d105_311 : decode (pg_code 105) 311 = .ok (.iconst 0, 1) := by decide +kernel
theorem d105_312 : decode (pg_code 105) 312 = .ok (.bastore, 1) := by decide +kernel
theorem d105_313 : decode (pg_code 105) 313 = .ok (.iinc 5 1, 3) := by decide +kernel
theorem d105_316 : decode (pg_code 105) 316 = .ok (.goto (-36), 3) := by decide +kernel
theorem d105_319 : decode (pg_code 105) 319 = .ok (.return_, 1) := by decide +kernel
theorem e105 {b1 b2 : Value} : am_Call L xs d 105 [b1, b2] σ Q = am_Rn L xs d 105 0 [b1, b2, .retAddr 0, .retAddr 0, .retAddr 0, .retAddr 0, .retAddr 0, .retAddr 0, .retAddr 0, .retAddr 0] [] σ Q := rfl
theorem r105_0  : am_Rn L xs d 105 0 ls st σ Q = am_Rn L xs d 105 1 ls (.int 0 :: st) σ Q := am_r_iconst d105_0 (by decide)
theorem r105_1 {x : Int32} : am_Rn L xs d 105 1 ls (.int x :: st) σ Q = (2 < ls.length ∧ am_Rn L xs d 105 2 (ls.set 2 (.int x)) st σ Q) := am_r_istore_n d105_1
theorem r105_2  : am_Rn L xs d 105 2 ls st σ Q = am_Rn L xs d 105 3 ls (.int 0 :: st) σ Q := am_r_iconst d105_2 (by decide)
theorem r105_3 {x : Int32} : am_Rn L xs d 105 3 ls (.int x :: st) σ Q = (3 < ls.length ∧ am_Rn L xs d 105 4 (ls.set 3 (.int x)) st σ Q) := am_r_istore_n d105_3
theorem r105_4  : am_Rn L xs d 105 4 ls st σ Q = am_li ls 3 (fun x => am_Rn L xs d 105 5 ls (.int x :: st) σ Q) := am_r_iload_n d105_4
theorem r105_5  : am_Rn L xs d 105 5 ls st σ Q = am_la ls 0 (fun x => am_Rn L xs d 105 6 ls (x :: st) σ Q) := am_r_aload_n d105_5
theorem r105_6 {p : Nat} : am_Rn L xs d 105 6 ls (.ref p :: st) σ Q = am_fd σ p 6 0 (fun v => am_Rn L xs d 105 9 ls (v :: st) σ Q) := am_r_getfield d105_6 rfl
theorem r105_9  : am_Rn L xs d 105 9 ls st σ Q = am_la ls 0 (fun x => am_Rn L xs d 105 10 ls (x :: st) σ Q) := am_r_aload_n d105_9
theorem r105_10 {p : Nat} : am_Rn L xs d 105 10 ls (.ref p :: st) σ Q = am_fd σ p 6 16 (fun v => am_Rn L xs d 105 13 ls (v :: st) σ Q) := am_r_getfield d105_10 rfl
theorem r105_13 {p : Nat} {i : Int32} : am_Rn L xs d 105 13 ls (.int i :: .ref p :: st) σ Q = am_ai 0 σ p i (fun x => am_Rn L xs d 105 14 ls (.int x :: st) σ Q) := am_r_iaload d105_13
theorem r105_14 {a b : Int32} : am_Rn L xs d 105 14 ls (.int b :: .int a :: st) σ Q = if b ≤ a then am_Rn L xs d 105 125 ls st σ Q else am_Rn L xs d 105 17 ls st σ Q := (am_r_icmp (t := 125) d105_14 (by decide)).trans (am_ite _ _ trivial (by simp only [am_cond, decide_eq_true_eq]))
theorem r105_17  : am_Rn L xs d 105 17 ls st σ Q = am_la ls 0 (fun x => am_Rn L xs d 105 18 ls (x :: st) σ Q) := am_r_aload_n d105_17
theorem r105_18 {p : Nat} : am_Rn L xs d 105 18 ls (.ref p :: st) σ Q = am_fd σ p 6 1 (fun v => am_Rn L xs d 105 21 ls (v :: st) σ Q) := am_r_getfield d105_18 rfl
theorem r105_21  : am_Rn L xs d 105 21 ls st σ Q = am_Rn L xs d 105 23 ls (.int 12 :: st) σ Q := am_r_bipush d105_21 (by decide)
theorem r105_23  : am_Rn L xs d 105 23 ls st σ Q = am_la ls 0 (fun x => am_Rn L xs d 105 24 ls (x :: st) σ Q) := am_r_aload_n d105_23
theorem r105_24 {p : Nat} : am_Rn L xs d 105 24 ls (.ref p :: st) σ Q = am_fd σ p 6 16 (fun v => am_Rn L xs d 105 27 ls (v :: st) σ Q) := am_r_getfield d105_24 rfl
theorem r105_27 {a b : Int32} : am_Rn L xs d 105 27 ls (.int b :: .int a :: st) σ Q = am_Rn L xs d 105 28 ls (.int (a * b) :: st) σ Q := am_r_imul d105_27
theorem r105_28  : am_Rn L xs d 105 28 ls st σ Q = am_li ls 3 (fun x => am_Rn L xs d 105 29 ls (.int x :: st) σ Q) := am_r_iload_n d105_28
theorem r105_29 {a b : Int32} : am_Rn L xs d 105 29 ls (.int b :: .int a :: st) σ Q = am_Rn L xs d 105 30 ls (.int (a + b) :: st) σ Q := am_r_iadd d105_29
theorem r105_30 {p : Nat} {i : Int32} : am_Rn L xs d 105 30 ls (.int i :: .ref p :: st) σ Q = am_ai 0 σ p i (fun x => am_Rn L xs d 105 31 ls (.int x :: st) σ Q) := am_r_iaload d105_30
theorem r105_31 {x : Int32} : am_Rn L xs d 105 31 ls (.int x :: st) σ Q = (4 < ls.length ∧ am_Rn L xs d 105 33 (ls.set 4 (.int x)) st σ Q) := am_r_istore d105_31
theorem r105_33  : am_Rn L xs d 105 33 ls st σ Q = am_li ls 4 (fun x => am_Rn L xs d 105 35 ls (.int x :: st) σ Q) := am_r_iload d105_33
theorem r105_35  : am_Rn L xs d 105 35 ls st σ Q = am_li ls 1 (fun x => am_Rn L xs d 105 36 ls (.int x :: st) σ Q) := am_r_iload_n d105_35
theorem r105_36 {a b : Int32} : am_Rn L xs d 105 36 ls (.int b :: .int a :: st) σ Q = if ¬ a = b then am_Rn L xs d 105 88 ls st σ Q else am_Rn L xs d 105 39 ls st σ Q := (am_r_icmp (t := 88) d105_36 (by decide)).trans (am_ite _ _ trivial (by simp only [am_cond, decide_eq_true_eq]))
theorem r105_39  : am_Rn L xs d 105 39 ls st σ Q = am_la ls 0 (fun x => am_Rn L xs d 105 40 ls (x :: st) σ Q) := am_r_aload_n d105_39
theorem r105_40 {p : Nat} : am_Rn L xs d 105 40 ls (.ref p :: st) σ Q = am_fd σ p 6 4 (fun v => am_Rn L xs d 105 43 ls (v :: st) σ Q) := am_r_getfield d105_40 rfl
theorem r105_43  : am_Rn L xs d 105 43 ls st σ Q = am_li ls 3 (fun x => am_Rn L xs d 105 44 ls (.int x :: st) σ Q) := am_r_iload_n d105_43
theorem r105_44 {p : Nat} {i : Int32} : am_Rn L xs d 105 44 ls (.int i :: .ref p :: st) σ Q = am_ai 0 σ p i (fun x => am_Rn L xs d 105 45 ls (.int x :: st) σ Q) := am_r_iaload d105_44
theorem r105_45 {a : Int32} : am_Rn L xs d 105 45 ls (.int a :: st) σ Q = if a < 0 then am_Rn L xs d 105 88 ls st σ Q else am_Rn L xs d 105 48 ls st σ Q := (am_r_if (t := 88) d105_45 (by decide)).trans (am_ite _ _ trivial (by simp only [am_cond, decide_eq_true_eq]))
theorem r105_48  : am_Rn L xs d 105 48 ls st σ Q = am_la ls 0 (fun x => am_Rn L xs d 105 49 ls (x :: st) σ Q) := am_r_aload_n d105_48
theorem r105_49 {p : Nat} : am_Rn L xs d 105 49 ls (.ref p :: st) σ Q = am_fd σ p 6 1 (fun v => am_Rn L xs d 105 52 ls (v :: st) σ Q) := am_r_getfield d105_49 rfl
theorem r105_52  : am_Rn L xs d 105 52 ls st σ Q = am_Rn L xs d 105 54 ls (.int 12 :: st) σ Q := am_r_bipush d105_52 (by decide)
theorem r105_54  : am_Rn L xs d 105 54 ls st σ Q = am_la ls 0 (fun x => am_Rn L xs d 105 55 ls (x :: st) σ Q) := am_r_aload_n d105_54
theorem r105_55 {p : Nat} : am_Rn L xs d 105 55 ls (.ref p :: st) σ Q = am_fd σ p 6 17 (fun v => am_Rn L xs d 105 58 ls (v :: st) σ Q) := am_r_getfield d105_55 rfl
theorem r105_58 {a b : Int32} : am_Rn L xs d 105 58 ls (.int b :: .int a :: st) σ Q = am_Rn L xs d 105 59 ls (.int (a * b) :: st) σ Q := am_r_imul d105_58
theorem r105_59  : am_Rn L xs d 105 59 ls st σ Q = am_la ls 0 (fun x => am_Rn L xs d 105 60 ls (x :: st) σ Q) := am_r_aload_n d105_59
theorem r105_60 {p : Nat} : am_Rn L xs d 105 60 ls (.ref p :: st) σ Q = am_fd σ p 6 4 (fun v => am_Rn L xs d 105 63 ls (v :: st) σ Q) := am_r_getfield d105_60 rfl
theorem r105_63  : am_Rn L xs d 105 63 ls st σ Q = am_li ls 3 (fun x => am_Rn L xs d 105 64 ls (.int x :: st) σ Q) := am_r_iload_n d105_63
theorem r105_64 {p : Nat} {i : Int32} : am_Rn L xs d 105 64 ls (.int i :: .ref p :: st) σ Q = am_ai 0 σ p i (fun x => am_Rn L xs d 105 65 ls (.int x :: st) σ Q) := am_r_iaload d105_64
theorem r105_65 {a b : Int32} : am_Rn L xs d 105 65 ls (.int b :: .int a :: st) σ Q = am_Rn L xs d 105 66 ls (.int (a + b) :: st) σ Q := am_r_iadd d105_65
theorem r105_66 {p : Nat} {i : Int32} : am_Rn L xs d 105 66 ls (.int i :: .ref p :: st) σ Q = am_ai 0 σ p i (fun x => am_Rn L xs d 105 67 ls (.int x :: st) σ Q) := am_r_iaload d105_66
theorem r105_67  : am_Rn L xs d 105 67 ls st σ Q = am_li ls 1 (fun x => am_Rn L xs d 105 68 ls (.int x :: st) σ Q) := am_r_iload_n d105_67
theorem r105_68 {a : Int32} : am_Rn L xs d 105 68 ls (.int a :: st) σ Q = if 0 ≤ a then am_Rn L xs d 105 75 ls st σ Q else am_Rn L xs d 105 71 ls st σ Q := (am_r_if (t := 75) d105_68 (by decide)).trans (am_ite _ _ trivial (by simp only [am_cond, decide_eq_true_eq]))
theorem r105_71  : am_Rn L xs d 105 71 ls st σ Q = am_Rn L xs d 105 72 ls (.int (-1) :: st) σ Q := am_r_iconst d105_71 (by decide)
theorem r105_72  : am_Rn L xs d 105 72 ls st σ Q = am_Rn L xs d 105 81 ls st σ Q := am_r_goto d105_72 (by decide)
theorem r105_75  : am_Rn L xs d 105 75 ls st σ Q = am_la ls 0 (fun x => am_Rn L xs d 105 76 ls (x :: st) σ Q) := am_r_aload_n d105_75
theorem r105_76 {p : Nat} : am_Rn L xs d 105 76 ls (.ref p :: st) σ Q = am_fd σ p 6 4 (fun v => am_Rn L xs d 105 79 ls (v :: st) σ Q) := am_r_getfield d105_76 rfl
theorem r105_79  : am_Rn L xs d 105 79 ls st σ Q = am_li ls 1 (fun x => am_Rn L xs d 105 80 ls (.int x :: st) σ Q) := am_r_iload_n d105_79
theorem r105_80 {p : Nat} {i : Int32} : am_Rn L xs d 105 80 ls (.int i :: .ref p :: st) σ Q = am_ai 0 σ p i (fun x => am_Rn L xs d 105 81 ls (.int x :: st) σ Q) := am_r_iaload d105_80
theorem r105_81 {a b : Int32} : am_Rn L xs d 105 81 ls (.int b :: .int a :: st) σ Q = if ¬ a = b then am_Rn L xs d 105 88 ls st σ Q else am_Rn L xs d 105 84 ls st σ Q := (am_r_icmp (t := 88) d105_81 (by decide)).trans (am_ite _ _ trivial (by simp only [am_cond, decide_eq_true_eq]))
theorem r105_84  : am_Rn L xs d 105 84 ls st σ Q = am_Rn L xs d 105 85 ls (.int 1 :: st) σ Q := am_r_iconst d105_84 (by decide)
theorem r105_85  : am_Rn L xs d 105 85 ls st σ Q = am_Rn L xs d 105 89 ls st σ Q := am_r_goto d105_85 (by decide)
theorem r105_88  : am_Rn L xs d 105 88 ls st σ Q = am_Rn L xs d 105 89 ls (.int 0 :: st) σ Q := am_r_iconst d105_88 (by decide)
theorem r105_89 {x : Int32} : am_Rn L xs d 105 89 ls (.int x :: st) σ Q = (5 < ls.length ∧ am_Rn L xs d 105 91 (ls.set 5 (.int x)) st σ Q) := am_r_istore d105_89
theorem r105_91  : am_Rn L xs d 105 91 ls st σ Q = am_li ls 5 (fun x => am_Rn L xs d 105 93 ls (.int x :: st) σ Q) := am_r_iload d105_91
theorem r105_93 {a : Int32} : am_Rn L xs d 105 93 ls (.int a :: st) σ Q = if a = 0 then am_Rn L xs d 105 119 ls st σ Q else am_Rn L xs d 105 96 ls st σ Q := (am_r_if (t := 119) d105_93 (by decide)).trans (am_ite _ _ trivial (by simp only [am_cond, decide_eq_true_eq]))
theorem r105_96  : am_Rn L xs d 105 96 ls st σ Q = am_li ls 1 (fun x => am_Rn L xs d 105 97 ls (.int x :: st) σ Q) := am_r_iload_n d105_96
theorem r105_97 {a : Int32} : am_Rn L xs d 105 97 ls (.int a :: st) σ Q = if a < 0 then am_Rn L xs d 105 109 ls st σ Q else am_Rn L xs d 105 100 ls st σ Q := (am_r_if (t := 109) d105_97 (by decide)).trans (am_ite _ _ trivial (by simp only [am_cond, decide_eq_true_eq]))
theorem r105_100  : am_Rn L xs d 105 100 ls st σ Q = am_la ls 0 (fun x => am_Rn L xs d 105 101 ls (x :: st) σ Q) := am_r_aload_n d105_100
theorem r105_101 {p : Nat} : am_Rn L xs d 105 101 ls (.ref p :: st) σ Q = am_fd σ p 6 4 (fun v => am_Rn L xs d 105 104 ls (v :: st) σ Q) := am_r_getfield d105_101 rfl
theorem r105_104  : am_Rn L xs d 105 104 ls st σ Q = am_li ls 1 (fun x => am_Rn L xs d 105 105 ls (.int x :: st) σ Q) := am_r_iload_n d105_104
theorem r105_105 {p : Nat} {i : Int32} : am_Rn L xs d 105 105 ls (.int i :: .ref p :: st) σ Q = am_ai 0 σ p i (fun x => am_Rn L xs d 105 106 ls (.int x :: st) σ Q) := am_r_iaload d105_105
theorem r105_106 {a : Int32} : am_Rn L xs d 105 106 ls (.int a :: st) σ Q = if a < 0 then am_Rn L xs d 105 119 ls st σ Q else am_Rn L xs d 105 109 ls st σ Q := (am_r_if (t := 119) d105_106 (by decide)).trans (am_ite _ _ trivial (by simp only [am_cond, decide_eq_true_eq]))
theorem r105_109  : am_Rn L xs d 105 109 ls st σ Q = am_la ls 0 (fun x => am_Rn L xs d 105 110 ls (x :: st) σ Q) := am_r_aload_n d105_109
theorem r105_110 {p : Nat} : am_Rn L xs d 105 110 ls (.ref p :: st) σ Q = am_fd σ p 6 15 (fun v => am_Rn L xs d 105 113 ls (v :: st) σ Q) := am_r_getfield d105_110 rfl
theorem r105_113  : am_Rn L xs d 105 113 ls st σ Q = am_li ls 2 (fun x => am_Rn L xs d 105 114 ls (.int x :: st) σ Q) := am_r_iload_n d105_113
theorem r105_114  : am_Rn L xs d 105 114 ls st σ Q = am_li ls 3 (fun x => am_Rn L xs d 105 115 ls (.int x :: st) σ Q) := am_r_iload_n d105_114
theorem r105_115 {p : Nat} {i x : Int32} : am_Rn L xs d 105 115 ls (.int x :: .int i :: .ref p :: st) σ Q = am_wi 0 σ p i x (fun σ1 => am_Rn L xs d 105 116 ls st σ1 Q) := am_r_iastore d105_115
theorem r105_116  : am_Rn L xs d 105 116 ls st σ Q = am_li ls 2 (fun x => am_Rn L xs d 105 119 (ls.set 2 (.int (x + 1))) st σ Q) := am_r_iinc d105_116 (by decide)
theorem r105_119  : am_Rn L xs d 105 119 ls st σ Q = am_li ls 3 (fun x => am_Rn L xs d 105 122 (ls.set 3 (.int (x + 1))) st σ Q) := am_r_iinc d105_119 (by decide)
theorem r105_122  : am_Rn L xs d 105 122 ls st σ Q = am_Rn L xs d 105 4 ls st σ Q := am_r_goto d105_122 (by decide)
theorem r105_125  : am_Rn L xs d 105 125 ls st σ Q = am_Rn L xs d 105 126 ls (.int 0 :: st) σ Q := am_r_iconst d105_125 (by decide)
theorem r105_126 {x : Int32} : am_Rn L xs d 105 126 ls (.int x :: st) σ Q = (3 < ls.length ∧ am_Rn L xs d 105 127 (ls.set 3 (.int x)) st σ Q) := am_r_istore_n d105_126
theorem r105_127  : am_Rn L xs d 105 127 ls st σ Q = am_Rn L xs d 105 128 ls (.int 0 :: st) σ Q := am_r_iconst d105_127 (by decide)
theorem r105_128 {x : Int32} : am_Rn L xs d 105 128 ls (.int x :: st) σ Q = (4 < ls.length ∧ am_Rn L xs d 105 130 (ls.set 4 (.int x)) st σ Q) := am_r_istore d105_128
theorem r105_130  : am_Rn L xs d 105 130 ls st σ Q = am_Rn L xs d 105 131 ls (.int 0 :: st) σ Q := am_r_iconst d105_130 (by decide)
theorem r105_131 {x : Int32} : am_Rn L xs d 105 131 ls (.int x :: st) σ Q = (5 < ls.length ∧ am_Rn L xs d 105 133 (ls.set 5 (.int x)) st σ Q) := am_r_istore d105_131
theorem r105_133  : am_Rn L xs d 105 133 ls st σ Q = am_li ls 5 (fun x => am_Rn L xs d 105 135 ls (.int x :: st) σ Q) := am_r_iload d105_133
theorem r105_135  : am_Rn L xs d 105 135 ls st σ Q = am_Rn L xs d 105 136 ls (.int 1 :: st) σ Q := am_r_iconst d105_135 (by decide)
theorem r105_136  : am_Rn L xs d 105 136 ls st σ Q = am_li ls 2 (fun x => am_Rn L xs d 105 137 ls (.int x :: st) σ Q) := am_r_iload_n d105_136
theorem r105_137 {a b : Int32} : am_Rn L xs d 105 137 ls (.int b :: .int a :: st) σ Q = am_Rn L xs d 105 138 ls (.int (a <<< (b &&& 31)) :: st) σ Q := am_r_ishl d105_137
theorem r105_138 {a b : Int32} : am_Rn L xs d 105 138 ls (.int b :: .int a :: st) σ Q = if b ≤ a then am_Rn L xs d 105 277 ls st σ Q else am_Rn L xs d 105 141 ls st σ Q := (am_r_icmp (t := 277) d105_138 (by decide)).trans (am_ite _ _ trivial (by simp only [am_cond, decide_eq_true_eq]))
theorem r105_141  : am_Rn L xs d 105 141 ls st σ Q = am_Rn L xs d 105 142 ls (.int (-1) :: st) σ Q := am_r_iconst d105_141 (by decide)
theorem r105_142 {x : Int32} : am_Rn L xs d 105 142 ls (.int x :: st) σ Q = (6 < ls.length ∧ am_Rn L xs d 105 144 (ls.set 6 (.int x)) st σ Q) := am_r_istore d105_142
theorem r105_144  : am_Rn L xs d 105 144 ls st σ Q = am_Rn L xs d 105 145 ls (.int 0 :: st) σ Q := am_r_iconst d105_144 (by decide)
theorem r105_145 {x : Int32} : am_Rn L xs d 105 145 ls (.int x :: st) σ Q = (7 < ls.length ∧ am_Rn L xs d 105 147 (ls.set 7 (.int x)) st σ Q) := am_r_istore d105_145
theorem r105_147  : am_Rn L xs d 105 147 ls st σ Q = am_Rn L xs d 105 148 ls (.int 0 :: st) σ Q := am_r_iconst d105_147 (by decide)
theorem r105_148 {x : Int32} : am_Rn L xs d 105 148 ls (.int x :: st) σ Q = (8 < ls.length ∧ am_Rn L xs d 105 150 (ls.set 8 (.int x)) st σ Q) := am_r_istore d105_148
theorem r105_150  : am_Rn L xs d 105 150 ls st σ Q = am_li ls 8 (fun x => am_Rn L xs d 105 152 ls (.int x :: st) σ Q) := am_r_iload d105_150
theorem r105_152  : am_Rn L xs d 105 152 ls st σ Q = am_li ls 2 (fun x => am_Rn L xs d 105 153 ls (.int x :: st) σ Q) := am_r_iload_n d105_152
theorem r105_153 {a b : Int32} : am_Rn L xs d 105 153 ls (.int b :: .int a :: st) σ Q = if b ≤ a then am_Rn L xs d 105 215 ls st σ Q else am_Rn L xs d 105 156 ls st σ Q := (am_r_icmp (t := 215) d105_153 (by decide)).trans (am_ite _ _ trivial (by simp only [am_cond, decide_eq_true_eq]))
theorem r105_156  : am_Rn L xs d 105 156 ls st σ Q = am_li ls 5 (fun x => am_Rn L xs d 105 158 ls (.int x :: st) σ Q) := am_r_iload d105_156
theorem r105_158  : am_Rn L xs d 105 158 ls st σ Q = am_li ls 8 (fun x => am_Rn L xs d 105 160 ls (.int x :: st) σ Q) := am_r_iload d105_158
theorem r105_160 {a b : Int32} : am_Rn L xs d 105 160 ls (.int b :: .int a :: st) σ Q = am_Rn L xs d 105 161 ls (.int (a >>> (b &&& 31)) :: st) σ Q := am_r_ishr d105_160
theorem r105_161  : am_Rn L xs d 105 161 ls st σ Q = am_Rn L xs d 105 162 ls (.int 1 :: st) σ Q := am_r_iconst d105_161 (by decide)
theorem r105_162 {a b : Int32} : am_Rn L xs d 105 162 ls (.int b :: .int a :: st) σ Q = am_Rn L xs d 105 163 ls (.int (a &&& b) :: st) σ Q := am_r_iand d105_162
theorem r105_163  : am_Rn L xs d 105 163 ls st σ Q = am_Rn L xs d 105 164 ls (.int 1 :: st) σ Q := am_r_iconst d105_163 (by decide)
theorem r105_164 {a b : Int32} : am_Rn L xs d 105 164 ls (.int b :: .int a :: st) σ Q = if ¬ a = b then am_Rn L xs d 105 209 ls st σ Q else am_Rn L xs d 105 167 ls st σ Q := (am_r_icmp (t := 209) d105_164 (by decide)).trans (am_ite _ _ trivial (by simp only [am_cond, decide_eq_true_eq]))
theorem r105_167  : am_Rn L xs d 105 167 ls st σ Q = am_li ls 6 (fun x => am_Rn L xs d 105 169 ls (.int x :: st) σ Q) := am_r_iload d105_167
theorem r105_169  : am_Rn L xs d 105 169 ls st σ Q = am_la ls 0 (fun x => am_Rn L xs d 105 170 ls (x :: st) σ Q) := am_r_aload_n d105_169
theorem r105_170 {p : Nat} : am_Rn L xs d 105 170 ls (.ref p :: st) σ Q = am_fd σ p 6 4 (fun v => am_Rn L xs d 105 173 ls (v :: st) σ Q) := am_r_getfield d105_170 rfl
theorem r105_173  : am_Rn L xs d 105 173 ls st σ Q = am_la ls 0 (fun x => am_Rn L xs d 105 174 ls (x :: st) σ Q) := am_r_aload_n d105_173
theorem r105_174 {p : Nat} : am_Rn L xs d 105 174 ls (.ref p :: st) σ Q = am_fd σ p 6 15 (fun v => am_Rn L xs d 105 177 ls (v :: st) σ Q) := am_r_getfield d105_174 rfl
theorem r105_177  : am_Rn L xs d 105 177 ls st σ Q = am_li ls 8 (fun x => am_Rn L xs d 105 179 ls (.int x :: st) σ Q) := am_r_iload d105_177
theorem r105_179 {p : Nat} {i : Int32} : am_Rn L xs d 105 179 ls (.int i :: .ref p :: st) σ Q = am_ai 0 σ p i (fun x => am_Rn L xs d 105 180 ls (.int x :: st) σ Q) := am_r_iaload d105_179
theorem r105_180 {p : Nat} {i : Int32} : am_Rn L xs d 105 180 ls (.int i :: .ref p :: st) σ Q = am_ai 0 σ p i (fun x => am_Rn L xs d 105 181 ls (.int x :: st) σ Q) := am_r_iaload d105_180
theorem r105_181 {a b : Int32} : am_Rn L xs d 105 181 ls (.int b :: .int a :: st) σ Q = if b ≤ a then am_Rn L xs d 105 191 ls st σ Q else am_Rn L xs d 105 184 ls st σ Q := (am_r_icmp (t := 191) d105_181 (by decide)).trans (am_ite _ _ trivial (by simp only [am_cond, decide_eq_true_eq]))
theorem r105_184  : am_Rn L xs d 105 184 ls st σ Q = am_li ls 7 (fun x => am_Rn L xs d 105 186 ls (.int x :: st) σ Q) := am_r_iload d105_184
theorem r105_186  : am_Rn L xs d 105 186 ls st σ Q = am_Rn L xs d 105 187 ls (.int 1 :: st) σ Q := am_r_iconst d105_186 (by decide)
theorem r105_187 {a b : Int32} : am_Rn L xs d 105 187 ls (.int b :: .int a :: st) σ Q = am_Rn L xs d 105 188 ls (.int (a + b) :: st) σ Q := am_r_iadd d105_187
theorem r105_188  : am_Rn L xs d 105 188 ls st σ Q = am_Rn L xs d 105 193 ls st σ Q := am_r_goto d105_188 (by decide)
theorem r105_191  : am_Rn L xs d 105 191 ls st σ Q = am_Rn L xs d 105 193 ls (.int (-20) :: st) σ Q := am_r_bipush d105_191 (by decide)
theorem r105_193 {x : Int32} : am_Rn L xs d 105 193 ls (.int x :: st) σ Q = (7 < ls.length ∧ am_Rn L xs d 105 195 (ls.set 7 (.int x)) st σ Q) := am_r_istore d105_193
theorem r105_195  : am_Rn L xs d 105 195 ls st σ Q = am_la ls 0 (fun x => am_Rn L xs d 105 196 ls (x :: st) σ Q) := am_r_aload_n d105_195
theorem r105_196 {p : Nat} : am_Rn L xs d 105 196 ls (.ref p :: st) σ Q = am_fd σ p 6 4 (fun v => am_Rn L xs d 105 199 ls (v :: st) σ Q) := am_r_getfield d105_196 rfl
theorem r105_199  : am_Rn L xs d 105 199 ls st σ Q = am_la ls 0 (fun x => am_Rn L xs d 105 200 ls (x :: st) σ Q) := am_r_aload_n d105_199
theorem r105_200 {p : Nat} : am_Rn L xs d 105 200 ls (.ref p :: st) σ Q = am_fd σ p 6 15 (fun v => am_Rn L xs d 105 203 ls (v :: st) σ Q) := am_r_getfield d105_200 rfl
theorem r105_203  : am_Rn L xs d 105 203 ls st σ Q = am_li ls 8 (fun x => am_Rn L xs d 105 205 ls (.int x :: st) σ Q) := am_r_iload d105_203
theorem r105_205 {p : Nat} {i : Int32} : am_Rn L xs d 105 205 ls (.int i :: .ref p :: st) σ Q = am_ai 0 σ p i (fun x => am_Rn L xs d 105 206 ls (.int x :: st) σ Q) := am_r_iaload d105_205
theorem r105_206 {p : Nat} {i : Int32} : am_Rn L xs d 105 206 ls (.int i :: .ref p :: st) σ Q = am_ai 0 σ p i (fun x => am_Rn L xs d 105 207 ls (.int x :: st) σ Q) := am_r_iaload d105_206
theorem r105_207 {x : Int32} : am_Rn L xs d 105 207 ls (.int x :: st) σ Q = (6 < ls.length ∧ am_Rn L xs d 105 209 (ls.set 6 (.int x)) st σ Q) := am_r_istore d105_207
theorem r105_209  : am_Rn L xs d 105 209 ls st σ Q = am_li ls 8 (fun x => am_Rn L xs d 105 212 (ls.set 8 (.int (x + 1))) st σ Q) := am_r_iinc d105_209 (by decide)
theorem r105_212  : am_Rn L xs d 105 212 ls st σ Q = am_Rn L xs d 105 150 ls st σ Q := am_r_goto d105_212 (by decide)
theorem r105_215  : am_Rn L xs d 105 215 ls st σ Q = am_li ls 5 (fun x => am_Rn L xs d 105 217 ls (.int x :: st) σ Q) := am_r_iload d105_215
theorem r105_217  : am_Rn L xs d 105 217 ls st σ Q = am_li ls 3 (fun x => am_Rn L xs d 105 218 ls (.int x :: st) σ Q) := am_r_iload_n d105_217
theorem r105_218 {a b : Int32} : am_Rn L xs d 105 218 ls (.int b :: .int a :: st) σ Q = am_Rn L xs d 105 219 ls (.int (a ^^^ b) :: st) σ Q := am_r_ixor d105_218
theorem r105_219 {x : Int32} : am_Rn L xs d 105 219 ls (.int x :: st) σ Q = (8 < ls.length ∧ am_Rn L xs d 105 221 (ls.set 8 (.int x)) st σ Q) := am_r_istore d105_219
theorem r105_221  : am_Rn L xs d 105 221 ls st σ Q = am_li ls 5 (fun x => am_Rn L xs d 105 223 ls (.int x :: st) σ Q) := am_r_iload d105_221
theorem r105_223  : am_Rn L xs d 105 223 ls st σ Q = am_li ls 8 (fun x => am_Rn L xs d 105 225 ls (.int x :: st) σ Q) := am_r_iload d105_223
theorem r105_225 {a b : Int32} : am_Rn L xs d 105 225 ls (.int b :: .int a :: st) σ Q = am_Rn L xs d 105 226 ls (.int (a &&& b) :: st) σ Q := am_r_iand d105_225
theorem r105_226  : am_Rn L xs d 105 226 ls st σ Q = am_li ls 8 (fun x => am_Rn L xs d 105 228 ls (.int x :: st) σ Q) := am_r_iload d105_226
theorem r105_228 {a : Int32} : am_Rn L xs d 105 228 ls (.int a :: st) σ Q = am_Rn L xs d 105 229 ls (.int (-a) :: st) σ Q := am_r_ineg d105_228
theorem r105_229 {a b : Int32} : am_Rn L xs d 105 229 ls (.int b :: .int a :: st) σ Q = am_Rn L xs d 105 230 ls (.int (a &&& b) :: st) σ Q := am_r_iand d105_229
theorem r105_230 {a : Int32} : am_Rn L xs d 105 230 ls (.int a :: st) σ Q = if a = 0 then am_Rn L xs d 105 237 ls st σ Q else am_Rn L xs d 105 233 ls st σ Q := (am_r_if (t := 237) d105_230 (by decide)).trans (am_ite _ _ trivial (by simp only [am_cond, decide_eq_true_eq]))
theorem r105_233  : am_Rn L xs d 105 233 ls st σ Q = am_Rn L xs d 105 234 ls (.int 1 :: st) σ Q := am_r_iconst d105_233 (by decide)
theorem r105_234  : am_Rn L xs d 105 234 ls st σ Q = am_Rn L xs d 105 238 ls st σ Q := am_r_goto d105_234 (by decide)
theorem r105_237  : am_Rn L xs d 105 237 ls st σ Q = am_Rn L xs d 105 238 ls (.int 0 :: st) σ Q := am_r_iconst d105_237 (by decide)
theorem r105_238 {x : Int32} : am_Rn L xs d 105 238 ls (.int x :: st) σ Q = (9 < ls.length ∧ am_Rn L xs d 105 240 (ls.set 9 (.int x)) st σ Q) := am_r_istore d105_238
theorem r105_240  : am_Rn L xs d 105 240 ls st σ Q = am_li ls 7 (fun x => am_Rn L xs d 105 242 ls (.int x :: st) σ Q) := am_r_iload d105_240
theorem r105_242  : am_Rn L xs d 105 242 ls st σ Q = am_li ls 4 (fun x => am_Rn L xs d 105 244 ls (.int x :: st) σ Q) := am_r_iload d105_242
theorem r105_244 {a b : Int32} : am_Rn L xs d 105 244 ls (.int b :: .int a :: st) σ Q = if b < a then am_Rn L xs d 105 264 ls st σ Q else am_Rn L xs d 105 247 ls st σ Q := (am_r_icmp (t := 264) d105_244 (by decide)).trans (am_ite _ _ trivial (by simp only [am_cond, decide_eq_true_eq]))
theorem r105_247  : am_Rn L xs d 105 247 ls st σ Q = am_li ls 7 (fun x => am_Rn L xs d 105 249 ls (.int x :: st) σ Q) := am_r_iload d105_247
theorem r105_249  : am_Rn L xs d 105 249 ls st σ Q = am_li ls 4 (fun x => am_Rn L xs d 105 251 ls (.int x :: st) σ Q) := am_r_iload d105_249
theorem r105_251 {a b : Int32} : am_Rn L xs d 105 251 ls (.int b :: .int a :: st) σ Q = if ¬ a = b then am_Rn L xs d 105 271 ls st σ Q else am_Rn L xs d 105 254 ls st σ Q := (am_r_icmp (t := 271) d105_251 (by decide)).trans (am_ite _ _ trivial (by simp only [am_cond, decide_eq_true_eq]))
theorem r105_254  : am_Rn L xs d 105 254 ls st σ Q = am_li ls 7 (fun x => am_Rn L xs d 105 256 ls (.int x :: st) σ Q) := am_r_iload d105_254
theorem r105_256 {a : Int32} : am_Rn L xs d 105 256 ls (.int a :: st) σ Q = if a ≤ 0 then am_Rn L xs d 105 271 ls st σ Q else am_Rn L xs d 105 259 ls st σ Q := (am_r_if (t := 271) d105_256 (by decide)).trans (am_ite _ _ trivial (by simp only [am_cond, decide_eq_true_eq]))
theorem r105_259  : am_Rn L xs d 105 259 ls st σ Q = am_li ls 9 (fun x => am_Rn L xs d 105 261 ls (.int x :: st) σ Q) := am_r_iload d105_259
theorem r105_261 {a : Int32} : am_Rn L xs d 105 261 ls (.int a :: st) σ Q = if a = 0 then am_Rn L xs d 105 271 ls st σ Q else am_Rn L xs d 105 264 ls st σ Q := (am_r_if (t := 271) d105_261 (by decide)).trans (am_ite _ _ trivial (by simp only [am_cond, decide_eq_true_eq]))
theorem r105_264  : am_Rn L xs d 105 264 ls st σ Q = am_li ls 5 (fun x => am_Rn L xs d 105 266 ls (.int x :: st) σ Q) := am_r_iload d105_264
theorem r105_266 {x : Int32} : am_Rn L xs d 105 266 ls (.int x :: st) σ Q = (3 < ls.length ∧ am_Rn L xs d 105 267 (ls.set 3 (.int x)) st σ Q) := am_r_istore_n d105_266
theorem r105_267  : am_Rn L xs d 105 267 ls st σ Q = am_li ls 7 (fun x => am_Rn L xs d 105 269 ls (.int x :: st) σ Q) := am_r_iload d105_267
theorem r105_269 {x : Int32} : am_Rn L xs d 105 269 ls (.int x :: st) σ Q = (4 < ls.length ∧ am_Rn L xs d 105 271 (ls.set 4 (.int x)) st σ Q) := am_r_istore d105_269
theorem r105_271  : am_Rn L xs d 105 271 ls st σ Q = am_li ls 5 (fun x => am_Rn L xs d 105 274 (ls.set 5 (.int (x + 1))) st σ Q) := am_r_iinc d105_271 (by decide)
theorem r105_274  : am_Rn L xs d 105 274 ls st σ Q = am_Rn L xs d 105 133 ls st σ Q := am_r_goto d105_274 (by decide)
theorem r105_277  : am_Rn L xs d 105 277 ls st σ Q = am_Rn L xs d 105 278 ls (.int 0 :: st) σ Q := am_r_iconst d105_277 (by decide)
theorem r105_278 {x : Int32} : am_Rn L xs d 105 278 ls (.int x :: st) σ Q = (5 < ls.length ∧ am_Rn L xs d 105 280 (ls.set 5 (.int x)) st σ Q) := am_r_istore d105_278
theorem r105_280  : am_Rn L xs d 105 280 ls st σ Q = am_li ls 5 (fun x => am_Rn L xs d 105 282 ls (.int x :: st) σ Q) := am_r_iload d105_280
theorem r105_282  : am_Rn L xs d 105 282 ls st σ Q = am_li ls 2 (fun x => am_Rn L xs d 105 283 ls (.int x :: st) σ Q) := am_r_iload_n d105_282
theorem r105_283 {a b : Int32} : am_Rn L xs d 105 283 ls (.int b :: .int a :: st) σ Q = if b ≤ a then am_Rn L xs d 105 319 ls st σ Q else am_Rn L xs d 105 286 ls st σ Q := (am_r_icmp (t := 319) d105_283 (by decide)).trans (am_ite _ _ trivial (by simp only [am_cond, decide_eq_true_eq]))
theorem r105_286  : am_Rn L xs d 105 286 ls st σ Q = am_la ls 0 (fun x => am_Rn L xs d 105 287 ls (x :: st) σ Q) := am_r_aload_n d105_286
theorem r105_287 {p : Nat} : am_Rn L xs d 105 287 ls (.ref p :: st) σ Q = am_fd σ p 6 12 (fun v => am_Rn L xs d 105 290 ls (v :: st) σ Q) := am_r_getfield d105_287 rfl
theorem r105_290  : am_Rn L xs d 105 290 ls st σ Q = am_la ls 0 (fun x => am_Rn L xs d 105 291 ls (x :: st) σ Q) := am_r_aload_n d105_290
theorem r105_291 {p : Nat} : am_Rn L xs d 105 291 ls (.ref p :: st) σ Q = am_fd σ p 6 15 (fun v => am_Rn L xs d 105 294 ls (v :: st) σ Q) := am_r_getfield d105_291 rfl
theorem r105_294  : am_Rn L xs d 105 294 ls st σ Q = am_li ls 5 (fun x => am_Rn L xs d 105 296 ls (.int x :: st) σ Q) := am_r_iload d105_294
theorem r105_296 {p : Nat} {i : Int32} : am_Rn L xs d 105 296 ls (.int i :: .ref p :: st) σ Q = am_ai 0 σ p i (fun x => am_Rn L xs d 105 297 ls (.int x :: st) σ Q) := am_r_iaload d105_296
theorem r105_297  : am_Rn L xs d 105 297 ls st σ Q = am_li ls 3 (fun x => am_Rn L xs d 105 298 ls (.int x :: st) σ Q) := am_r_iload_n d105_297
theorem r105_298  : am_Rn L xs d 105 298 ls st σ Q = am_li ls 5 (fun x => am_Rn L xs d 105 300 ls (.int x :: st) σ Q) := am_r_iload d105_298
theorem r105_300 {a b : Int32} : am_Rn L xs d 105 300 ls (.int b :: .int a :: st) σ Q = am_Rn L xs d 105 301 ls (.int (a >>> (b &&& 31)) :: st) σ Q := am_r_ishr d105_300
theorem r105_301  : am_Rn L xs d 105 301 ls st σ Q = am_Rn L xs d 105 302 ls (.int 1 :: st) σ Q := am_r_iconst d105_301 (by decide)
theorem r105_302 {a b : Int32} : am_Rn L xs d 105 302 ls (.int b :: .int a :: st) σ Q = am_Rn L xs d 105 303 ls (.int (a &&& b) :: st) σ Q := am_r_iand d105_302
theorem r105_303  : am_Rn L xs d 105 303 ls st σ Q = am_Rn L xs d 105 304 ls (.int 1 :: st) σ Q := am_r_iconst d105_303 (by decide)
theorem r105_304 {a b : Int32} : am_Rn L xs d 105 304 ls (.int b :: .int a :: st) σ Q = if ¬ a = b then am_Rn L xs d 105 311 ls st σ Q else am_Rn L xs d 105 307 ls st σ Q := (am_r_icmp (t := 311) d105_304 (by decide)).trans (am_ite _ _ trivial (by simp only [am_cond, decide_eq_true_eq]))
theorem r105_307  : am_Rn L xs d 105 307 ls st σ Q = am_Rn L xs d 105 308 ls (.int 1 :: st) σ Q := am_r_iconst d105_307 (by decide)
theorem r105_308  : am_Rn L xs d 105 308 ls st σ Q = am_Rn L xs d 105 312 ls st σ Q := am_r_goto d105_308 (by decide)
theorem r105_311  : am_Rn L xs d 105 311 ls st σ Q = am_Rn L xs d 105 312 ls (.int 0 :: st) σ Q := am_r_iconst d105_311 (by decide)
theorem r105_312 {p : Nat} {i x : Int32} : am_Rn L xs d 105 312 ls (.int x :: .int i :: .ref p :: st) σ Q = am_wi 1 σ p i (vp_nar .boolean x) (fun σ1 => am_Rn L xs d 105 313 ls st σ1 Q) := am_r_bastore d105_312
theorem r105_313  : am_Rn L xs d 105 313 ls st σ Q = am_li ls 5 (fun x => am_Rn L xs d 105 316 (ls.set 5 (.int (x + 1))) st σ Q) := am_r_iinc d105_313 (by decide)
theorem r105_316  : am_Rn L xs d 105 316 ls st σ Q = am_Rn L xs d 105 280 ls st σ Q := am_r_goto d105_316 (by decide)
theorem r105_319  : am_Rn L xs d 105 319 ls [] σ Q = Q none σ := am_r_return d105_319 rfl
theorem d106_0 : decode (pg_code 106) 0 = .ok (.iconst 1, 1) := by decide +kernel
theorem d106_1 : decode (pg_code 106) 1 = .ok (.istore_n 1, 1) := by decide +kernel
theorem d106_2 : decode (pg_code 106) 2 = .ok (.aload_n 0, 1) := by decide +kernel
theorem d106_3 : decode (pg_code 106) 3 = .ok (.getfield 53, 3) := by decide +kernel
theorem d106_6 : decode (pg_code 106) 6 = .ok (.iconst 0, 1) := by decide +kernel
theorem d106_7 : decode (pg_code 106) 7 = .ok (.iconst 0, 1) := by decide +kernel
theorem d106_8 : decode (pg_code 106) 8 = .ok (.iastore, 1) := by decide +kernel
theorem d106_9 : decode (pg_code 106) 9 = .ok (.aload_n 0, 1) := by decide +kernel
theorem d106_10 : decode (pg_code 106) 10 = .ok (.getfield 50, 3) := by decide +kernel
theorem d106_13 : decode (pg_code 106) 13 = .ok (.iconst 0, 1) := by decide +kernel
theorem d106_14 : decode (pg_code 106) 14 = .ok (.iconst 0, 1) := by decide +kernel
theorem d106_15 : decode (pg_code 106) 15 = .ok (.iastore, 1) := by decide +kernel
theorem d106_16 : decode (pg_code 106) 16 = .ok (.iconst 1, 1) := by decide +kernel
theorem d106_17 : decode (pg_code 106) 17 = .ok (.istore_n 2, 1) := by decide +kernel
theorem d106_18 : decode (pg_code 106) 18 = .ok (.iload_n 2, 1) := by decide +kernel
theorem d106_19 : decode (pg_code 106) 19 = .ok (.aload_n 0, 1) := by decide +kernel
theorem d106_20 : decode (pg_code 106) 20 = .ok (.getfield 7, 3) := by decide +kernel
theorem d106_23 : decode (pg_code 106) 23 = .ok (.aload_n 0, 1) := by decide +kernel
theorem d106_24 : decode (pg_code 106) 24 = .ok (.getfield 141, 3) := by decide +kernel
theorem d106_27 : decode (pg_code 106) 27 = .ok (.iaload, 1) := by decide +kernel
theorem d106_28 : decode (pg_code 106) 28 = .ok (.if_icmp .ge 128, 3) := by decide +kernel
theorem d106_31 : decode (pg_code 106) 31 = .ok (.iconst 0, 1) := by decide +kernel
theorem d106_32 : decode (pg_code 106) 32 = .ok (.istore_n 3, 1) := by decide +kernel
theorem d106_33 : decode (pg_code 106) 33 = .ok (.iconst 0, 1) := by decide +kernel
theorem d106_34 : decode (pg_code 106) 34 = .ok (.istore 4, 2) := by decide +kernel
theorem d106_36 : decode (pg_code 106) 36 = .ok (.iload 4, 2) := by decide +kernel
theorem d106_38 : decode (pg_code 106) 38 = .ok (.iload_n 1, 1) := by decide +kernel
theorem d106_39 : decode (pg_code 106) 39 = .ok (.if_icmp .ge 70, 3) := by decide +kernel
theorem d106_42 : decode (pg_code 106) 42 = .ok (.aload_n 0, 1) := by decide +kernel
theorem d106_43 : decode (pg_code 106) 43 = .ok (.getfield 53, 3) := by decide +kernel
theorem d106_46 : decode (pg_code 106) 46 = .ok (.iload 4, 2) := by decide +kernel
theorem d106_48 : decode (pg_code 106) 48 = .ok (.iaload, 1) := by decide +kernel
theorem d106_49 : decode (pg_code 106) 49 = .ok (.istore 5, 2) := by decide +kernel
theorem d106_51 : decode (pg_code 106) 51 = .ok (.iload 5, 2) := by decide +kernel
theorem d106_53 : decode (pg_code 106) 53 = .ok (.aload_n 0, 1) := by decide +kernel
theorem d106_54 : decode (pg_code 106) 54 = .ok (.getfield 13, 3) := by decide +kernel
theorem d106_57 : decode (pg_code 106) 57 = .ok (.bipush 12, 2) := by decide +kernel
theorem d106_59 : decode (pg_code 106) 59 = .ok (.aload_n 0, 1) := by decide +kernel
theorem d106_60 : decode (pg_code 106) 60 = .ok (.getfield 141, 3) := by decide +kernel
theorem d106_63 : decode (pg_code 106) 63 = .ok (.imul, 1) := by decide +kernel
theorem d106_64 : decode (pg_code 106) 64 = .ok (.iload_n 2, 1) := by decide +kernel
theorem d106_65 : decode (pg_code 106) 65 = .ok (.iadd, 1) := by decide +kernel
theorem d106_66 : decode (pg_code 106) 66 = .ok (.iaload, 1) := by decide +kernel
theorem d106_67 : decode (pg_code 106) 67 = .ok (.if_icmp .eq 31, 3) := by decide +kernel
theorem d106_70 : decode (pg_code 106) 70 = .ok (.aload_n 0, 1) := by decide +kernel
theorem d106_71 : decode (pg_code 106) 71 = .ok (.getfield 35, 3) := by decide +kernel
theorem d106_74 : decode (pg_code 106) 74 = .ok (.bipush 12, 2) := by decide +kernel
theorem d106_76 : decode (pg_code 106) 76 = .ok (.aload_n 0, 1) := by decide +kernel
theorem d106_77 : decode (pg_code 106) 77 = .ok (.getfield 13, 3) := by decide +kernel
theorem d106_80 : decode (pg_code 106) 80 = .ok (.bipush 12, 2) := by decide +kernel
theorem d106_82 : decode (pg_code 106) 82 = .ok (.aload_n 0, 1) := by decide +kernel
theorem d106_83 : decode (pg_code 106) 83 = .ok (.getfield 141, 3) := by decide +kernel
theorem d106_86 : decode (pg_code 106) 86 = .ok (.imul, 1) := by decide +kernel
theorem d106_87 : decode (pg_code 106) 87 = .ok (.iload_n 2, 1) := by decide +kernel
theorem d106_88 : decode (pg_code 106) 88 = .ok (.iadd, 1) := by decide +kernel
theorem d106_89 : decode (pg_code 106) 89 = .ok (.iaload, 1) := by decide +kernel
theorem d106_90 : decode (pg_code 106) 90 = .ok (.imul, 1) := by decide +kernel
theorem d106_91 : decode (pg_code 106) 91 = .ok (.iload 5, 2) := by decide +kernel
theorem d106_93 : decode (pg_code 106) 93 = .ok (.iadd, 1) := by decide +kernel
theorem d106_94 : decode (pg_code 106) 94 = .ok (.baload, 1) := by decide +kernel
theorem d106_95 : decode (pg_code 106) 95 = .ok (.ifCond .eq 8, 3) := by decide +kernel
theorem d106_98 : decode (pg_code 106) 98 = .ok (.iload 4, 2) := by decide +kernel
theorem d106_100 : decode (pg_code 106) 100 = .ok (.iconst 1, 1) := by decide +kernel
theorem d106_101 : decode (pg_code 106) 101 = .ok (.iadd, 1) := by decide +kernel
theorem d106_102 : decode (pg_code 106) 102 = .ok (.istore_n 3, 1) := by decide +kernel
theorem d106_103 : decode (pg_code 106) 103 = .ok (.iinc 4 1, 3) := by decide +kernel
theorem d106_106 : decode (pg_code 106) 106 = .ok (.goto (-70), 3) := by decide +kernel
theorem d106_109 : decode (pg_code 106) 109 = .ok (.iload_n 1, 1) := by decide +kernel
theorem d106_110 : decode (pg_code 106) 110 = .ok (.istore 4, 2) := by decide +kernel
theorem d106_112 : decode (pg_code 106) 112 = .ok (.iload 4, 2) := by decide +kernel
theorem d106_114 : decode (pg_code 106) 114 = .ok (.iload_n 3, 1) := by decide +kernel
theorem d106_115 : decode (pg_code 106) 115 = .ok (.if_icmp .le 25, 3) := by decide +kernel
theorem d106_118 : decode (pg_code 106) 118 = .ok (.aload_n 0, 1) := by decide +kernel
theorem d106_119 : decode (pg_code 106) 119 = .ok (.getfield 53, 3) := by decide +kernel
theorem d106_122 : decode (pg_code 106) 122 = .ok (.iload 4, 2) := by decide +kernel
theorem d106_124 : decode (pg_code 106) 124 = .ok (.aload_n 0, 1) := by decide +kernel
theorem d106_125 : decode (pg_code 106) 125 = .ok (.getfield 53, 3) := by decide +kernel
theorem d106_128 : decode (pg_code 106) 128 = .ok (.iload 4, 2) := by decide +kernel
theorem d106_130 : decode (pg_code 106) 130 = .ok (.iconst 1, 1) := by decide +kernel
theorem d106_131 : decode (pg_code 106) 131 = .ok (.isub, 1) := by decide +kernel
theorem d106_132 : decode (pg_code 106) 132 = .ok (.iaload, 1) := by decide +kernel
theorem d106_133 : decode (pg_code 106) 133 = .ok (.iastore, 1) := by decide +kernel
theorem d106_134 : decode (pg_code 106) 134 = .ok (.iinc 4 (-1), 3) := by decide +kernel
theorem d106_137 : decode (pg_code 106) 137 = .ok (.goto (-25), 3) := by decide +kernel
theorem d106_140 : decode (pg_code 106) 140 = .ok (.aload_n 0, 1) := by decide +kernel
theorem d106_141 : decode (pg_code 106) 141 = .ok (.getfield 53, 3) := by decide +kernel
theorem d106_144 : decode (pg_code 106) 144 = .ok (.iload_n 3, 1) := by decide +kernel
theorem d106_145 : decode (pg_code 106) 145 = .ok (.iload_n 2, 1) := by decide +kernel
theorem d106_146 : decode (pg_code 106) 146 = .ok (.iastore, 1) := by decide +kernel
theorem d106_147 : decode (pg_code 106) 147 = .ok (.iinc 1 1, 3) := by decide +kernel
theorem d106_150 : decode (pg_code 106) 150 = .ok (.iinc 2 1, 3) := by decide +kernel
theorem d106_153 : decode (pg_code 106) 153 = .ok (.goto (-135), 3) := by decide +kernel
theorem d106_156 : decode (pg_code 106) 156 = .ok (.return_, 1) := by decide +kernel
theorem e106 {b1 : Value} : am_Call L xs d 106 [b1] σ Q = am_Rn L xs d 106 0 [b1, .retAddr 0, .retAddr 0, .retAddr 0, .retAddr 0, .retAddr 0] [] σ Q := rfl
theorem r106_0  : am_Rn L xs d 106 0 ls st σ Q = am_Rn L xs d 106 1 ls (.int 1 :: st) σ Q := am_r_iconst d106_0 (by decide)
theorem r106_1 {x : Int32} : am_Rn L xs d 106 1 ls (.int x :: st) σ Q = (1 < ls.length ∧ am_Rn L xs d 106 2 (ls.set 1 (.int x)) st σ Q) := am_r_istore_n d106_1
theorem r106_2  : am_Rn L xs d 106 2 ls st σ Q = am_la ls 0 (fun x => am_Rn L xs d 106 3 ls (x :: st) σ Q) := am_r_aload_n d106_2
theorem r106_3 {p : Nat} : am_Rn L xs d 106 3 ls (.ref p :: st) σ Q = am_fd σ p 6 14 (fun v => am_Rn L xs d 106 6 ls (v :: st) σ Q) := am_r_getfield d106_3 rfl
theorem r106_6  : am_Rn L xs d 106 6 ls st σ Q = am_Rn L xs d 106 7 ls (.int 0 :: st) σ Q := am_r_iconst d106_6 (by decide)
theorem r106_7  : am_Rn L xs d 106 7 ls st σ Q = am_Rn L xs d 106 8 ls (.int 0 :: st) σ Q := am_r_iconst d106_7 (by decide)
theorem r106_8 {p : Nat} {i x : Int32} : am_Rn L xs d 106 8 ls (.int x :: .int i :: .ref p :: st) σ Q = am_wi 0 σ p i x (fun σ1 => am_Rn L xs d 106 9 ls st σ1 Q) := am_r_iastore d106_8
theorem r106_9  : am_Rn L xs d 106 9 ls st σ Q = am_la ls 0 (fun x => am_Rn L xs d 106 10 ls (x :: st) σ Q) := am_r_aload_n d106_9
theorem r106_10 {p : Nat} : am_Rn L xs d 106 10 ls (.ref p :: st) σ Q = am_fd σ p 6 13 (fun v => am_Rn L xs d 106 13 ls (v :: st) σ Q) := am_r_getfield d106_10 rfl
theorem r106_13  : am_Rn L xs d 106 13 ls st σ Q = am_Rn L xs d 106 14 ls (.int 0 :: st) σ Q := am_r_iconst d106_13 (by decide)
theorem r106_14  : am_Rn L xs d 106 14 ls st σ Q = am_Rn L xs d 106 15 ls (.int 0 :: st) σ Q := am_r_iconst d106_14 (by decide)
theorem r106_15 {p : Nat} {i x : Int32} : am_Rn L xs d 106 15 ls (.int x :: .int i :: .ref p :: st) σ Q = am_wi 0 σ p i x (fun σ1 => am_Rn L xs d 106 16 ls st σ1 Q) := am_r_iastore d106_15
theorem r106_16  : am_Rn L xs d 106 16 ls st σ Q = am_Rn L xs d 106 17 ls (.int 1 :: st) σ Q := am_r_iconst d106_16 (by decide)
theorem r106_17 {x : Int32} : am_Rn L xs d 106 17 ls (.int x :: st) σ Q = (2 < ls.length ∧ am_Rn L xs d 106 18 (ls.set 2 (.int x)) st σ Q) := am_r_istore_n d106_17
theorem r106_18  : am_Rn L xs d 106 18 ls st σ Q = am_li ls 2 (fun x => am_Rn L xs d 106 19 ls (.int x :: st) σ Q) := am_r_iload_n d106_18
theorem r106_19  : am_Rn L xs d 106 19 ls st σ Q = am_la ls 0 (fun x => am_Rn L xs d 106 20 ls (x :: st) σ Q) := am_r_aload_n d106_19
theorem r106_20 {p : Nat} : am_Rn L xs d 106 20 ls (.ref p :: st) σ Q = am_fd σ p 6 0 (fun v => am_Rn L xs d 106 23 ls (v :: st) σ Q) := am_r_getfield d106_20 rfl
theorem r106_23  : am_Rn L xs d 106 23 ls st σ Q = am_la ls 0 (fun x => am_Rn L xs d 106 24 ls (x :: st) σ Q) := am_r_aload_n d106_23
theorem r106_24 {p : Nat} : am_Rn L xs d 106 24 ls (.ref p :: st) σ Q = am_fd σ p 6 17 (fun v => am_Rn L xs d 106 27 ls (v :: st) σ Q) := am_r_getfield d106_24 rfl
theorem r106_27 {p : Nat} {i : Int32} : am_Rn L xs d 106 27 ls (.int i :: .ref p :: st) σ Q = am_ai 0 σ p i (fun x => am_Rn L xs d 106 28 ls (.int x :: st) σ Q) := am_r_iaload d106_27
theorem r106_28 {a b : Int32} : am_Rn L xs d 106 28 ls (.int b :: .int a :: st) σ Q = if b ≤ a then am_Rn L xs d 106 156 ls st σ Q else am_Rn L xs d 106 31 ls st σ Q := (am_r_icmp (t := 156) d106_28 (by decide)).trans (am_ite _ _ trivial (by simp only [am_cond, decide_eq_true_eq]))
theorem r106_31  : am_Rn L xs d 106 31 ls st σ Q = am_Rn L xs d 106 32 ls (.int 0 :: st) σ Q := am_r_iconst d106_31 (by decide)
theorem r106_32 {x : Int32} : am_Rn L xs d 106 32 ls (.int x :: st) σ Q = (3 < ls.length ∧ am_Rn L xs d 106 33 (ls.set 3 (.int x)) st σ Q) := am_r_istore_n d106_32
theorem r106_33  : am_Rn L xs d 106 33 ls st σ Q = am_Rn L xs d 106 34 ls (.int 0 :: st) σ Q := am_r_iconst d106_33 (by decide)
theorem r106_34 {x : Int32} : am_Rn L xs d 106 34 ls (.int x :: st) σ Q = (4 < ls.length ∧ am_Rn L xs d 106 36 (ls.set 4 (.int x)) st σ Q) := am_r_istore d106_34
theorem r106_36  : am_Rn L xs d 106 36 ls st σ Q = am_li ls 4 (fun x => am_Rn L xs d 106 38 ls (.int x :: st) σ Q) := am_r_iload d106_36
theorem r106_38  : am_Rn L xs d 106 38 ls st σ Q = am_li ls 1 (fun x => am_Rn L xs d 106 39 ls (.int x :: st) σ Q) := am_r_iload_n d106_38
theorem r106_39 {a b : Int32} : am_Rn L xs d 106 39 ls (.int b :: .int a :: st) σ Q = if b ≤ a then am_Rn L xs d 106 109 ls st σ Q else am_Rn L xs d 106 42 ls st σ Q := (am_r_icmp (t := 109) d106_39 (by decide)).trans (am_ite _ _ trivial (by simp only [am_cond, decide_eq_true_eq]))
theorem r106_42  : am_Rn L xs d 106 42 ls st σ Q = am_la ls 0 (fun x => am_Rn L xs d 106 43 ls (x :: st) σ Q) := am_r_aload_n d106_42
theorem r106_43 {p : Nat} : am_Rn L xs d 106 43 ls (.ref p :: st) σ Q = am_fd σ p 6 14 (fun v => am_Rn L xs d 106 46 ls (v :: st) σ Q) := am_r_getfield d106_43 rfl
theorem r106_46  : am_Rn L xs d 106 46 ls st σ Q = am_li ls 4 (fun x => am_Rn L xs d 106 48 ls (.int x :: st) σ Q) := am_r_iload d106_46
theorem r106_48 {p : Nat} {i : Int32} : am_Rn L xs d 106 48 ls (.int i :: .ref p :: st) σ Q = am_ai 0 σ p i (fun x => am_Rn L xs d 106 49 ls (.int x :: st) σ Q) := am_r_iaload d106_48
theorem r106_49 {x : Int32} : am_Rn L xs d 106 49 ls (.int x :: st) σ Q = (5 < ls.length ∧ am_Rn L xs d 106 51 (ls.set 5 (.int x)) st σ Q) := am_r_istore d106_49
theorem r106_51  : am_Rn L xs d 106 51 ls st σ Q = am_li ls 5 (fun x => am_Rn L xs d 106 53 ls (.int x :: st) σ Q) := am_r_iload d106_51
theorem r106_53  : am_Rn L xs d 106 53 ls st σ Q = am_la ls 0 (fun x => am_Rn L xs d 106 54 ls (x :: st) σ Q) := am_r_aload_n d106_53
theorem r106_54 {p : Nat} : am_Rn L xs d 106 54 ls (.ref p :: st) σ Q = am_fd σ p 6 1 (fun v => am_Rn L xs d 106 57 ls (v :: st) σ Q) := am_r_getfield d106_54 rfl
theorem r106_57  : am_Rn L xs d 106 57 ls st σ Q = am_Rn L xs d 106 59 ls (.int 12 :: st) σ Q := am_r_bipush d106_57 (by decide)
theorem r106_59  : am_Rn L xs d 106 59 ls st σ Q = am_la ls 0 (fun x => am_Rn L xs d 106 60 ls (x :: st) σ Q) := am_r_aload_n d106_59
theorem r106_60 {p : Nat} : am_Rn L xs d 106 60 ls (.ref p :: st) σ Q = am_fd σ p 6 17 (fun v => am_Rn L xs d 106 63 ls (v :: st) σ Q) := am_r_getfield d106_60 rfl
theorem r106_63 {a b : Int32} : am_Rn L xs d 106 63 ls (.int b :: .int a :: st) σ Q = am_Rn L xs d 106 64 ls (.int (a * b) :: st) σ Q := am_r_imul d106_63
theorem r106_64  : am_Rn L xs d 106 64 ls st σ Q = am_li ls 2 (fun x => am_Rn L xs d 106 65 ls (.int x :: st) σ Q) := am_r_iload_n d106_64
theorem r106_65 {a b : Int32} : am_Rn L xs d 106 65 ls (.int b :: .int a :: st) σ Q = am_Rn L xs d 106 66 ls (.int (a + b) :: st) σ Q := am_r_iadd d106_65
theorem r106_66 {p : Nat} {i : Int32} : am_Rn L xs d 106 66 ls (.int i :: .ref p :: st) σ Q = am_ai 0 σ p i (fun x => am_Rn L xs d 106 67 ls (.int x :: st) σ Q) := am_r_iaload d106_66
theorem r106_67 {a b : Int32} : am_Rn L xs d 106 67 ls (.int b :: .int a :: st) σ Q = if a = b then am_Rn L xs d 106 98 ls st σ Q else am_Rn L xs d 106 70 ls st σ Q := (am_r_icmp (t := 98) d106_67 (by decide)).trans (am_ite _ _ trivial (by simp only [am_cond, decide_eq_true_eq]))
theorem r106_70  : am_Rn L xs d 106 70 ls st σ Q = am_la ls 0 (fun x => am_Rn L xs d 106 71 ls (x :: st) σ Q) := am_r_aload_n d106_70
theorem r106_71 {p : Nat} : am_Rn L xs d 106 71 ls (.ref p :: st) σ Q = am_fd σ p 6 8 (fun v => am_Rn L xs d 106 74 ls (v :: st) σ Q) := am_r_getfield d106_71 rfl
theorem r106_74  : am_Rn L xs d 106 74 ls st σ Q = am_Rn L xs d 106 76 ls (.int 12 :: st) σ Q := am_r_bipush d106_74 (by decide)
theorem r106_76  : am_Rn L xs d 106 76 ls st σ Q = am_la ls 0 (fun x => am_Rn L xs d 106 77 ls (x :: st) σ Q) := am_r_aload_n d106_76
theorem r106_77 {p : Nat} : am_Rn L xs d 106 77 ls (.ref p :: st) σ Q = am_fd σ p 6 1 (fun v => am_Rn L xs d 106 80 ls (v :: st) σ Q) := am_r_getfield d106_77 rfl
theorem r106_80  : am_Rn L xs d 106 80 ls st σ Q = am_Rn L xs d 106 82 ls (.int 12 :: st) σ Q := am_r_bipush d106_80 (by decide)
theorem r106_82  : am_Rn L xs d 106 82 ls st σ Q = am_la ls 0 (fun x => am_Rn L xs d 106 83 ls (x :: st) σ Q) := am_r_aload_n d106_82
theorem r106_83 {p : Nat} : am_Rn L xs d 106 83 ls (.ref p :: st) σ Q = am_fd σ p 6 17 (fun v => am_Rn L xs d 106 86 ls (v :: st) σ Q) := am_r_getfield d106_83 rfl
theorem r106_86 {a b : Int32} : am_Rn L xs d 106 86 ls (.int b :: .int a :: st) σ Q = am_Rn L xs d 106 87 ls (.int (a * b) :: st) σ Q := am_r_imul d106_86
theorem r106_87  : am_Rn L xs d 106 87 ls st σ Q = am_li ls 2 (fun x => am_Rn L xs d 106 88 ls (.int x :: st) σ Q) := am_r_iload_n d106_87
theorem r106_88 {a b : Int32} : am_Rn L xs d 106 88 ls (.int b :: .int a :: st) σ Q = am_Rn L xs d 106 89 ls (.int (a + b) :: st) σ Q := am_r_iadd d106_88
theorem r106_89 {p : Nat} {i : Int32} : am_Rn L xs d 106 89 ls (.int i :: .ref p :: st) σ Q = am_ai 0 σ p i (fun x => am_Rn L xs d 106 90 ls (.int x :: st) σ Q) := am_r_iaload d106_89
theorem r106_90 {a b : Int32} : am_Rn L xs d 106 90 ls (.int b :: .int a :: st) σ Q = am_Rn L xs d 106 91 ls (.int (a * b) :: st) σ Q := am_r_imul d106_90
theorem r106_91  : am_Rn L xs d 106 91 ls st σ Q = am_li ls 5 (fun x => am_Rn L xs d 106 93 ls (.int x :: st) σ Q) := am_r_iload d106_91
theorem r106_93 {a b : Int32} : am_Rn L xs d 106 93 ls (.int b :: .int a :: st) σ Q = am_Rn L xs d 106 94 ls (.int (a + b) :: st) σ Q := am_r_iadd d106_93
theorem r106_94 {p : Nat} {i : Int32} : am_Rn L xs d 106 94 ls (.int i :: .ref p :: st) σ Q = am_ai 1 σ p i (fun x => am_Rn L xs d 106 95 ls (.int x :: st) σ Q) := am_r_baload d106_94
theorem r106_95 {a : Int32} : am_Rn L xs d 106 95 ls (.int a :: st) σ Q = if a = 0 then am_Rn L xs d 106 103 ls st σ Q else am_Rn L xs d 106 98 ls st σ Q := (am_r_if (t := 103) d106_95 (by decide)).trans (am_ite _ _ trivial (by simp only [am_cond, decide_eq_true_eq]))
theorem r106_98  : am_Rn L xs d 106 98 ls st σ Q = am_li ls 4 (fun x => am_Rn L xs d 106 100 ls (.int x :: st) σ Q) := am_r_iload d106_98
theorem r106_100  : am_Rn L xs d 106 100 ls st σ Q = am_Rn L xs d 106 101 ls (.int 1 :: st) σ Q := am_r_iconst d106_100 (by decide)
theorem r106_101 {a b : Int32} : am_Rn L xs d 106 101 ls (.int b :: .int a :: st) σ Q = am_Rn L xs d 106 102 ls (.int (a + b) :: st) σ Q := am_r_iadd d106_101
theorem r106_102 {x : Int32} : am_Rn L xs d 106 102 ls (.int x :: st) σ Q = (3 < ls.length ∧ am_Rn L xs d 106 103 (ls.set 3 (.int x)) st σ Q) := am_r_istore_n d106_102
theorem r106_103  : am_Rn L xs d 106 103 ls st σ Q = am_li ls 4 (fun x => am_Rn L xs d 106 106 (ls.set 4 (.int (x + 1))) st σ Q) := am_r_iinc d106_103 (by decide)
theorem r106_106  : am_Rn L xs d 106 106 ls st σ Q = am_Rn L xs d 106 36 ls st σ Q := am_r_goto d106_106 (by decide)
theorem r106_109  : am_Rn L xs d 106 109 ls st σ Q = am_li ls 1 (fun x => am_Rn L xs d 106 110 ls (.int x :: st) σ Q) := am_r_iload_n d106_109
theorem r106_110 {x : Int32} : am_Rn L xs d 106 110 ls (.int x :: st) σ Q = (4 < ls.length ∧ am_Rn L xs d 106 112 (ls.set 4 (.int x)) st σ Q) := am_r_istore d106_110
theorem r106_112  : am_Rn L xs d 106 112 ls st σ Q = am_li ls 4 (fun x => am_Rn L xs d 106 114 ls (.int x :: st) σ Q) := am_r_iload d106_112
theorem r106_114  : am_Rn L xs d 106 114 ls st σ Q = am_li ls 3 (fun x => am_Rn L xs d 106 115 ls (.int x :: st) σ Q) := am_r_iload_n d106_114
theorem r106_115 {a b : Int32} : am_Rn L xs d 106 115 ls (.int b :: .int a :: st) σ Q = if a ≤ b then am_Rn L xs d 106 140 ls st σ Q else am_Rn L xs d 106 118 ls st σ Q := (am_r_icmp (t := 140) d106_115 (by decide)).trans (am_ite _ _ trivial (by simp only [am_cond, decide_eq_true_eq]))
theorem r106_118  : am_Rn L xs d 106 118 ls st σ Q = am_la ls 0 (fun x => am_Rn L xs d 106 119 ls (x :: st) σ Q) := am_r_aload_n d106_118
theorem r106_119 {p : Nat} : am_Rn L xs d 106 119 ls (.ref p :: st) σ Q = am_fd σ p 6 14 (fun v => am_Rn L xs d 106 122 ls (v :: st) σ Q) := am_r_getfield d106_119 rfl
theorem r106_122  : am_Rn L xs d 106 122 ls st σ Q = am_li ls 4 (fun x => am_Rn L xs d 106 124 ls (.int x :: st) σ Q) := am_r_iload d106_122
theorem r106_124  : am_Rn L xs d 106 124 ls st σ Q = am_la ls 0 (fun x => am_Rn L xs d 106 125 ls (x :: st) σ Q) := am_r_aload_n d106_124
theorem r106_125 {p : Nat} : am_Rn L xs d 106 125 ls (.ref p :: st) σ Q = am_fd σ p 6 14 (fun v => am_Rn L xs d 106 128 ls (v :: st) σ Q) := am_r_getfield d106_125 rfl
theorem r106_128  : am_Rn L xs d 106 128 ls st σ Q = am_li ls 4 (fun x => am_Rn L xs d 106 130 ls (.int x :: st) σ Q) := am_r_iload d106_128
theorem r106_130  : am_Rn L xs d 106 130 ls st σ Q = am_Rn L xs d 106 131 ls (.int 1 :: st) σ Q := am_r_iconst d106_130 (by decide)
theorem r106_131 {a b : Int32} : am_Rn L xs d 106 131 ls (.int b :: .int a :: st) σ Q = am_Rn L xs d 106 132 ls (.int (a - b) :: st) σ Q := am_r_isub d106_131
theorem r106_132 {p : Nat} {i : Int32} : am_Rn L xs d 106 132 ls (.int i :: .ref p :: st) σ Q = am_ai 0 σ p i (fun x => am_Rn L xs d 106 133 ls (.int x :: st) σ Q) := am_r_iaload d106_132
theorem r106_133 {p : Nat} {i x : Int32} : am_Rn L xs d 106 133 ls (.int x :: .int i :: .ref p :: st) σ Q = am_wi 0 σ p i x (fun σ1 => am_Rn L xs d 106 134 ls st σ1 Q) := am_r_iastore d106_133
theorem r106_134  : am_Rn L xs d 106 134 ls st σ Q = am_li ls 4 (fun x => am_Rn L xs d 106 137 (ls.set 4 (.int (x + (-1)))) st σ Q) := am_r_iinc d106_134 (by decide)
theorem r106_137  : am_Rn L xs d 106 137 ls st σ Q = am_Rn L xs d 106 112 ls st σ Q := am_r_goto d106_137 (by decide)
theorem r106_140  : am_Rn L xs d 106 140 ls st σ Q = am_la ls 0 (fun x => am_Rn L xs d 106 141 ls (x :: st) σ Q) := am_r_aload_n d106_140
theorem r106_141 {p : Nat} : am_Rn L xs d 106 141 ls (.ref p :: st) σ Q = am_fd σ p 6 14 (fun v => am_Rn L xs d 106 144 ls (v :: st) σ Q) := am_r_getfield d106_141 rfl
theorem r106_144  : am_Rn L xs d 106 144 ls st σ Q = am_li ls 3 (fun x => am_Rn L xs d 106 145 ls (.int x :: st) σ Q) := am_r_iload_n d106_144
theorem r106_145  : am_Rn L xs d 106 145 ls st σ Q = am_li ls 2 (fun x => am_Rn L xs d 106 146 ls (.int x :: st) σ Q) := am_r_iload_n d106_145
theorem r106_146 {p : Nat} {i x : Int32} : am_Rn L xs d 106 146 ls (.int x :: .int i :: .ref p :: st) σ Q = am_wi 0 σ p i x (fun σ1 => am_Rn L xs d 106 147 ls st σ1 Q) := am_r_iastore d106_146
theorem r106_147  : am_Rn L xs d 106 147 ls st σ Q = am_li ls 1 (fun x => am_Rn L xs d 106 150 (ls.set 1 (.int (x + 1))) st σ Q) := am_r_iinc d106_147 (by decide)
theorem r106_150  : am_Rn L xs d 106 150 ls st σ Q = am_li ls 2 (fun x => am_Rn L xs d 106 153 (ls.set 2 (.int (x + 1))) st σ Q) := am_r_iinc d106_150 (by decide)
theorem r106_153  : am_Rn L xs d 106 153 ls st σ Q = am_Rn L xs d 106 18 ls st σ Q := am_r_goto d106_153 (by decide)
theorem r106_156  : am_Rn L xs d 106 156 ls [] σ Q = Q none σ := am_r_return d106_156 rfl
theorem d107_0 : decode (pg_code 107) 0 = .ok (.aload_n 0, 1) := by decide +kernel
theorem d107_1 : decode (pg_code 107) 1 = .ok (.getfield 59, 3) := by decide +kernel
theorem d107_4 : decode (pg_code 107) 4 = .ok (.iconst 0, 1) := by decide +kernel
theorem d107_5 : decode (pg_code 107) 5 = .ok (.iaload, 1) := by decide +kernel
theorem d107_6 : decode (pg_code 107) 6 = .ok (.istore 7, 2) := by decide +kernel
theorem d107_8 : decode (pg_code 107) 8 = .ok (.aload_n 0, 1) := by decide +kernel
theorem d107_9 : decode (pg_code 107) 9 = .ok (.getfield 62, 3) := by decide +kernel
theorem d107_12 : decode (pg_code 107) 12 = .ok (.iload 7, 2) := by decide +kernel
theorem d107_14 : decode (pg_code 107) 14 = .ok (.iload_n 1, 1) := by decide +kernel
theorem d107_15 : decode (pg_code 107) 15 = .ok (.iastore, 1) := by decide +kernel
theorem d107_16 : decode (pg_code 107) 16 = .ok (.aload_n 0, 1) := by decide +kernel
theorem d107_17 : decode (pg_code 107) 17 = .ok (.getfield 65, 3) := by decide +kernel
theorem d107_20 : decode (pg_code 107) 20 = .ok (.iload 7, 2) := by decide +kernel
theorem d107_22 : decode (pg_code 107) 22 = .ok (.iload_n 2, 1) := by decide +kernel
theorem d107_23 : decode (pg_code 107) 23 = .ok (.iastore, 1) := by decide +kernel
theorem d107_24 : decode (pg_code 107) 24 = .ok (.aload_n 0, 1) := by decide +kernel
theorem d107_25 : decode (pg_code 107) 25 = .ok (.getfield 68, 3) := by decide +kernel
theorem d107_28 : decode (pg_code 107) 28 = .ok (.iload 7, 2) := by decide +kernel
theorem d107_30 : decode (pg_code 107) 30 = .ok (.iload_n 3, 1) := by decide +kernel
theorem d107_31 : decode (pg_code 107) 31 = .ok (.iastore, 1) := by decide +kernel
theorem d107_32 : decode (pg_code 107) 32 = .ok (.aload_n 0, 1) := by decide +kernel
theorem d107_33 : decode (pg_code 107) 33 = .ok (.getfield 71, 3) := by decide +kernel
theorem d107_36 : decode (pg_code 107) 36 = .ok (.iload 7, 2) := by decide +kernel
theorem d107_38 : decode (pg_code 107) 38 = .ok (.iload 4, 2) := by decide +kernel
theorem d107_40 : decode (pg_code 107) 40 = .ok (.iastore, 1) := by decide +kernel
theorem d107_41 : decode (pg_code 107) 41 = .ok (.aload_n 0, 1) := by decide +kernel
theorem d107_42 : decode (pg_code 107) 42 = .ok (.getfield 74, 3) := by decide +kernel
theorem d107_45 : decode (pg_code 107) 45 = .ok (.iload 7, 2) := by decide +kernel
theorem d107_47 : decode (pg_code 107) 47 = .ok (.iload 5, 2) := by decide +kernel
theorem d107_49 : decode (pg_code 107) 49 = .ok (.iastore, 1) := by decide +kernel
theorem d107_50 : decode (pg_code 107) 50 = .ok (.aload_n 0, 1) := by decide +kernel
theorem d107_51 : decode (pg_code 107) 51 = .ok (.getfield 77, 3) := by decide +kernel
theorem d107_54 : decode (pg_code 107) 54 = .ok (.iload 7, 2) := by decide +kernel
theorem d107_56 : decode (pg_code 107) 56 = .ok (.iload 6, 2) := by decide +kernel
theorem d107_58 : decode (pg_code 107) 58 = .ok (.iastore, 1) := by decide +kernel
theorem d107_59 : decode (pg_code 107) 59 = .ok (.aload_n 0, 1) := by decide +kernel
theorem d107_60 : decode (pg_code 107) 60 = .ok (.getfield 59, 3) := by decide +kernel
theorem d107_63 : decode (pg_code 107) 63 = .ok (.iconst 0, 1) := by decide +kernel
theorem d107_64 : decode (pg_code 107) 64 = .ok (.dup2, 1) := by decide +kernel
theorem d107_65 : decode (pg_code 107) 65 = .ok (.iaload, 1) := by decide +kernel
theorem d107_66 : decode (pg_code 107) 66 = .ok (.iconst 1, 1) := by decide +kernel
theorem d107_67 : decode (pg_code 107) 67 = .ok (.iadd, 1) := by decide +kernel
theorem d107_68 : decode (pg_code 107) 68 = .ok (.iastore, 1) := by decide +kernel
theorem d107_69 : decode (pg_code 107) 69 = .ok (.return_, 1) := by decide +kernel
theorem e107 {b1 b2 b3 b4 b5 b6 b7 : Value} : am_Call L xs d 107 [b1, b2, b3, b4, b5, b6, b7] σ Q = am_Rn L xs d 107 0 [b1, b2, b3, b4, b5, b6, b7, .retAddr 0] [] σ Q := rfl
theorem r107_0  : am_Rn L xs d 107 0 ls st σ Q = am_la ls 0 (fun x => am_Rn L xs d 107 1 ls (x :: st) σ Q) := am_r_aload_n d107_0
theorem r107_1 {p : Nat} : am_Rn L xs d 107 1 ls (.ref p :: st) σ Q = am_fd σ p 6 18 (fun v => am_Rn L xs d 107 4 ls (v :: st) σ Q) := am_r_getfield d107_1 rfl
theorem r107_4  : am_Rn L xs d 107 4 ls st σ Q = am_Rn L xs d 107 5 ls (.int 0 :: st) σ Q := am_r_iconst d107_4 (by decide)
theorem r107_5 {p : Nat} {i : Int32} : am_Rn L xs d 107 5 ls (.int i :: .ref p :: st) σ Q = am_ai 0 σ p i (fun x => am_Rn L xs d 107 6 ls (.int x :: st) σ Q) := am_r_iaload d107_5
theorem r107_6 {x : Int32} : am_Rn L xs d 107 6 ls (.int x :: st) σ Q = (7 < ls.length ∧ am_Rn L xs d 107 8 (ls.set 7 (.int x)) st σ Q) := am_r_istore d107_6
theorem r107_8  : am_Rn L xs d 107 8 ls st σ Q = am_la ls 0 (fun x => am_Rn L xs d 107 9 ls (x :: st) σ Q) := am_r_aload_n d107_8
theorem r107_9 {p : Nat} : am_Rn L xs d 107 9 ls (.ref p :: st) σ Q = am_fd σ p 6 19 (fun v => am_Rn L xs d 107 12 ls (v :: st) σ Q) := am_r_getfield d107_9 rfl
theorem r107_12  : am_Rn L xs d 107 12 ls st σ Q = am_li ls 7 (fun x => am_Rn L xs d 107 14 ls (.int x :: st) σ Q) := am_r_iload d107_12
theorem r107_14  : am_Rn L xs d 107 14 ls st σ Q = am_li ls 1 (fun x => am_Rn L xs d 107 15 ls (.int x :: st) σ Q) := am_r_iload_n d107_14
theorem r107_15 {p : Nat} {i x : Int32} : am_Rn L xs d 107 15 ls (.int x :: .int i :: .ref p :: st) σ Q = am_wi 0 σ p i x (fun σ1 => am_Rn L xs d 107 16 ls st σ1 Q) := am_r_iastore d107_15
theorem r107_16  : am_Rn L xs d 107 16 ls st σ Q = am_la ls 0 (fun x => am_Rn L xs d 107 17 ls (x :: st) σ Q) := am_r_aload_n d107_16
theorem r107_17 {p : Nat} : am_Rn L xs d 107 17 ls (.ref p :: st) σ Q = am_fd σ p 6 20 (fun v => am_Rn L xs d 107 20 ls (v :: st) σ Q) := am_r_getfield d107_17 rfl
theorem r107_20  : am_Rn L xs d 107 20 ls st σ Q = am_li ls 7 (fun x => am_Rn L xs d 107 22 ls (.int x :: st) σ Q) := am_r_iload d107_20
theorem r107_22  : am_Rn L xs d 107 22 ls st σ Q = am_li ls 2 (fun x => am_Rn L xs d 107 23 ls (.int x :: st) σ Q) := am_r_iload_n d107_22
theorem r107_23 {p : Nat} {i x : Int32} : am_Rn L xs d 107 23 ls (.int x :: .int i :: .ref p :: st) σ Q = am_wi 0 σ p i x (fun σ1 => am_Rn L xs d 107 24 ls st σ1 Q) := am_r_iastore d107_23
theorem r107_24  : am_Rn L xs d 107 24 ls st σ Q = am_la ls 0 (fun x => am_Rn L xs d 107 25 ls (x :: st) σ Q) := am_r_aload_n d107_24
theorem r107_25 {p : Nat} : am_Rn L xs d 107 25 ls (.ref p :: st) σ Q = am_fd σ p 6 21 (fun v => am_Rn L xs d 107 28 ls (v :: st) σ Q) := am_r_getfield d107_25 rfl
theorem r107_28  : am_Rn L xs d 107 28 ls st σ Q = am_li ls 7 (fun x => am_Rn L xs d 107 30 ls (.int x :: st) σ Q) := am_r_iload d107_28
theorem r107_30  : am_Rn L xs d 107 30 ls st σ Q = am_li ls 3 (fun x => am_Rn L xs d 107 31 ls (.int x :: st) σ Q) := am_r_iload_n d107_30
theorem r107_31 {p : Nat} {i x : Int32} : am_Rn L xs d 107 31 ls (.int x :: .int i :: .ref p :: st) σ Q = am_wi 0 σ p i x (fun σ1 => am_Rn L xs d 107 32 ls st σ1 Q) := am_r_iastore d107_31
theorem r107_32  : am_Rn L xs d 107 32 ls st σ Q = am_la ls 0 (fun x => am_Rn L xs d 107 33 ls (x :: st) σ Q) := am_r_aload_n d107_32
theorem r107_33 {p : Nat} : am_Rn L xs d 107 33 ls (.ref p :: st) σ Q = am_fd σ p 6 22 (fun v => am_Rn L xs d 107 36 ls (v :: st) σ Q) := am_r_getfield d107_33 rfl
theorem r107_36  : am_Rn L xs d 107 36 ls st σ Q = am_li ls 7 (fun x => am_Rn L xs d 107 38 ls (.int x :: st) σ Q) := am_r_iload d107_36
theorem r107_38  : am_Rn L xs d 107 38 ls st σ Q = am_li ls 4 (fun x => am_Rn L xs d 107 40 ls (.int x :: st) σ Q) := am_r_iload d107_38
theorem r107_40 {p : Nat} {i x : Int32} : am_Rn L xs d 107 40 ls (.int x :: .int i :: .ref p :: st) σ Q = am_wi 0 σ p i x (fun σ1 => am_Rn L xs d 107 41 ls st σ1 Q) := am_r_iastore d107_40
theorem r107_41  : am_Rn L xs d 107 41 ls st σ Q = am_la ls 0 (fun x => am_Rn L xs d 107 42 ls (x :: st) σ Q) := am_r_aload_n d107_41
theorem r107_42 {p : Nat} : am_Rn L xs d 107 42 ls (.ref p :: st) σ Q = am_fd σ p 6 23 (fun v => am_Rn L xs d 107 45 ls (v :: st) σ Q) := am_r_getfield d107_42 rfl
theorem r107_45  : am_Rn L xs d 107 45 ls st σ Q = am_li ls 7 (fun x => am_Rn L xs d 107 47 ls (.int x :: st) σ Q) := am_r_iload d107_45
theorem r107_47  : am_Rn L xs d 107 47 ls st σ Q = am_li ls 5 (fun x => am_Rn L xs d 107 49 ls (.int x :: st) σ Q) := am_r_iload d107_47
theorem r107_49 {p : Nat} {i x : Int32} : am_Rn L xs d 107 49 ls (.int x :: .int i :: .ref p :: st) σ Q = am_wi 0 σ p i x (fun σ1 => am_Rn L xs d 107 50 ls st σ1 Q) := am_r_iastore d107_49
theorem r107_50  : am_Rn L xs d 107 50 ls st σ Q = am_la ls 0 (fun x => am_Rn L xs d 107 51 ls (x :: st) σ Q) := am_r_aload_n d107_50
theorem r107_51 {p : Nat} : am_Rn L xs d 107 51 ls (.ref p :: st) σ Q = am_fd σ p 6 24 (fun v => am_Rn L xs d 107 54 ls (v :: st) σ Q) := am_r_getfield d107_51 rfl
theorem r107_54  : am_Rn L xs d 107 54 ls st σ Q = am_li ls 7 (fun x => am_Rn L xs d 107 56 ls (.int x :: st) σ Q) := am_r_iload d107_54
theorem r107_56  : am_Rn L xs d 107 56 ls st σ Q = am_li ls 6 (fun x => am_Rn L xs d 107 58 ls (.int x :: st) σ Q) := am_r_iload d107_56
theorem r107_58 {p : Nat} {i x : Int32} : am_Rn L xs d 107 58 ls (.int x :: .int i :: .ref p :: st) σ Q = am_wi 0 σ p i x (fun σ1 => am_Rn L xs d 107 59 ls st σ1 Q) := am_r_iastore d107_58
theorem r107_59  : am_Rn L xs d 107 59 ls st σ Q = am_la ls 0 (fun x => am_Rn L xs d 107 60 ls (x :: st) σ Q) := am_r_aload_n d107_59
theorem r107_60 {p : Nat} : am_Rn L xs d 107 60 ls (.ref p :: st) σ Q = am_fd σ p 6 18 (fun v => am_Rn L xs d 107 63 ls (v :: st) σ Q) := am_r_getfield d107_60 rfl
theorem r107_63  : am_Rn L xs d 107 63 ls st σ Q = am_Rn L xs d 107 64 ls (.int 0 :: st) σ Q := am_r_iconst d107_63 (by decide)
theorem r107_64 {a b : Value} : am_Rn L xs d 107 64 ls (a :: b :: st) σ Q = ((am_ok a && am_ok b) = true ∧ am_Rn L xs d 107 65 ls (a :: b :: a :: b :: st) σ Q) := am_r_dup2 d107_64
theorem r107_65 {p : Nat} {i : Int32} : am_Rn L xs d 107 65 ls (.int i :: .ref p :: st) σ Q = am_ai 0 σ p i (fun x => am_Rn L xs d 107 66 ls (.int x :: st) σ Q) := am_r_iaload d107_65
theorem r107_66  : am_Rn L xs d 107 66 ls st σ Q = am_Rn L xs d 107 67 ls (.int 1 :: st) σ Q := am_r_iconst d107_66 (by decide)
theorem r107_67 {a b : Int32} : am_Rn L xs d 107 67 ls (.int b :: .int a :: st) σ Q = am_Rn L xs d 107 68 ls (.int (a + b) :: st) σ Q := am_r_iadd d107_67
theorem r107_68 {p : Nat} {i x : Int32} : am_Rn L xs d 107 68 ls (.int x :: .int i :: .ref p :: st) σ Q = am_wi 0 σ p i x (fun σ1 => am_Rn L xs d 107 69 ls st σ1 Q) := am_r_iastore d107_68
theorem r107_69  : am_Rn L xs d 107 69 ls [] σ Q = Q none σ := am_r_return d107_69 rfl
theorem d108_0 : decode (pg_code 108) 0 = .ok (.aload_n 0, 1) := by decide +kernel
theorem d108_1 : decode (pg_code 108) 1 = .ok (.getfield 59, 3) := by decide +kernel
theorem d108_4 : decode (pg_code 108) 4 = .ok (.iload_n 1, 1) := by decide +kernel
theorem d108_5 : decode (pg_code 108) 5 = .ok (.aload_n 0, 1) := by decide +kernel
theorem d108_6 : decode (pg_code 108) 6 = .ok (.getfield 59, 3) := by decide +kernel
theorem d108_9 : decode (pg_code 108) 9 = .ok (.iconst 0, 1) := by decide +kernel
theorem d108_10 : decode (pg_code 108) 10 = .ok (.iaload, 1) := by decide +kernel
theorem d108_11 : decode (pg_code 108) 11 = .ok (.iastore, 1) := by decide +kernel
theorem d108_12 : decode (pg_code 108) 12 = .ok (.aload_n 0, 1) := by decide +kernel
theorem d108_13 : decode (pg_code 108) 13 = .ok (.getfield 80, 3) := by decide +kernel
theorem d108_16 : decode (pg_code 108) 16 = .ok (.iload_n 1, 1) := by decide +kernel
theorem d108_17 : decode (pg_code 108) 17 = .ok (.aload_n 0, 1) := by decide +kernel
theorem d108_18 : decode (pg_code 108) 18 = .ok (.getfield 80, 3) := by decide +kernel
theorem d108_21 : decode (pg_code 108) 21 = .ok (.iconst 0, 1) := by decide +kernel
theorem d108_22 : decode (pg_code 108) 22 = .ok (.iaload, 1) := by decide +kernel
theorem d108_23 : decode (pg_code 108) 23 = .ok (.iastore, 1) := by decide +kernel
theorem d108_24 : decode (pg_code 108) 24 = .ok (.iconst 0, 1) := by decide +kernel
theorem d108_25 : decode (pg_code 108) 25 = .ok (.istore_n 2, 1) := by decide +kernel
theorem d108_26 : decode (pg_code 108) 26 = .ok (.iload_n 2, 1) := by decide +kernel
theorem d108_27 : decode (pg_code 108) 27 = .ok (.bipush 40, 2) := by decide +kernel
theorem d108_29 : decode (pg_code 108) 29 = .ok (.if_icmp .ge 111, 3) := by decide +kernel
theorem d108_32 : decode (pg_code 108) 32 = .ok (.aload_n 0, 1) := by decide +kernel
theorem d108_33 : decode (pg_code 108) 33 = .ok (.getfield 62, 3) := by decide +kernel
theorem d108_36 : decode (pg_code 108) 36 = .ok (.bipush 40, 2) := by decide +kernel
theorem d108_38 : decode (pg_code 108) 38 = .ok (.iload_n 1, 1) := by decide +kernel
theorem d108_39 : decode (pg_code 108) 39 = .ok (.imul, 1) := by decide +kernel
theorem d108_40 : decode (pg_code 108) 40 = .ok (.iload_n 2, 1) := by decide +kernel
theorem d108_41 : decode (pg_code 108) 41 = .ok (.iadd, 1) := by decide +kernel
theorem d108_42 : decode (pg_code 108) 42 = .ok (.aload_n 0, 1) := by decide +kernel
theorem d108_43 : decode (pg_code 108) 43 = .ok (.getfield 62, 3) := by decide +kernel
theorem d108_46 : decode (pg_code 108) 46 = .ok (.iload_n 2, 1) := by decide +kernel
theorem d108_47 : decode (pg_code 108) 47 = .ok (.iaload, 1) := by decide +kernel
theorem d108_48 : decode (pg_code 108) 48 = .ok (.iastore, 1) := by decide +kernel
theorem d108_49 : decode (pg_code 108) 49 = .ok (.aload_n 0, 1) := by decide +kernel
theorem d108_50 : decode (pg_code 108) 50 = .ok (.getfield 65, 3) := by decide +kernel
theorem d108_53 : decode (pg_code 108) 53 = .ok (.bipush 40, 2) := by decide +kernel
theorem d108_55 : decode (pg_code 108) 55 = .ok (.iload_n 1, 1) := by decide +kernel
theorem d108_56 : decode (pg_code 108) 56 = .ok (.imul, 1) := by decide +kernel
theorem d108_57 : decode (pg_code 108) 57 = .ok (.iload_n 2, 1) := by decide +kernel
theorem d108_58 : decode (pg_code 108) 58 = .ok (.iadd, 1) := by decide +kernel
theorem d108_59 : decode (pg_code 108) 59 = .ok (.aload_n 0, 1) := by decide +kernel
theorem d108_60 : decode (pg_code 108) 60 = .ok (.getfield 65, 3) := by decide +kernel
theorem d108_63 : decode (pg_code 108) 63 = .ok (.iload_n 2, 1) := by decide +kernel
theorem d108_64 : decode (pg_code 108) 64 = .ok (.iaload, 1) := by decide +kernel
theorem d108_65 : decode (pg_code 108) 65 = .ok (.iastore, 1) := by decide +kernel
theorem d108_66 : decode (pg_code 108) 66 = .ok (.aload_n 0, 1) := by decide +kernel
theorem d108_67 : decode (pg_code 108) 67 = .ok (.getfield 68, 3) := by decide +kernel
theorem d108_70 : decode (pg_code 108) 70 = .ok (.bipush 40, 2) := by decide +kernel
theorem d108_72 : decode (pg_code 108) 72 = .ok (.iload_n 1, 1) := by decide +kernel
theorem d108_73 : decode (pg_code 108) 73 = .ok (.imul, 1) := by decide +kernel
theorem d108_74 : decode (pg_code 108) 74 = .ok (.iload_n 2, 1) := by decide +kernel
theorem d108_75 : decode (pg_code 108) 75 = .ok (.iadd, 1) := by decide +kernel
theorem d108_76 : decode (pg_code 108) 76 = .ok (.aload_n 0, 1) := by decide +kernel
theorem d108_77 : decode (pg_code 108) 77 = .ok (.getfield 68, 3) := by decide +kernel
theorem d108_80 : decode (pg_code 108) 80 = .ok (.iload_n 2, 1) := by decide +kernel
theorem d108_81 : decode (pg_code 108) 81 = .ok (.iaload, 1) := by decide +kernel
theorem d108_82 : decode (pg_code 108) 82 = .ok (.iastore, 1) := by decide +kernel
theorem d108_83 : decode (pg_code 108) 83 = .ok (.aload_n 0, 1) := by decide +kernel
theorem d108_84 : decode (pg_code 108) 84 = .ok (.getfield 71, 3) := by decide +kernel
theorem d108_87 : decode (pg_code 108) 87 = .ok (.bipush 40, 2) := by decide +kernel
theorem d108_89 : decode (pg_code 108) 89 = .ok (.iload_n 1, 1) := by decide +kernel
theorem d108_90 : decode (pg_code 108) 90 = .ok (.imul, 1) := by decide +kernel
theorem d108_91 : decode (pg_code 108) 91 = .ok (.iload_n 2, 1) := by decide +kernel
theorem d108_92 : decode (pg_code 108) 92 = .ok (.iadd, 1) := by decide +kernel
theorem d108_93 : decode (pg_code 108) 93 = .ok (.aload_n 0, 1) := by decide +kernel
theorem d108_94 : decode (pg_code 108) 94 = .ok (.getfield 71, 3) := by decide +kernel
theorem d108_97 : decode (pg_code 108) 97 = .ok (.iload_n 2, 1) := by decide +kernel
theorem d108_98 : decode (pg_code 108) 98 = .ok (.iaload, 1) := by decide +kernel
theorem d108_99 : decode (pg_code 108) 99 = .ok (.iastore, 1) := by decide +kernel
theorem d108_100 : decode (pg_code 108) 100 = .ok (.aload_n 0, 1) := by decide +kernel
theorem d108_101 : decode (pg_code 108) 101 = .ok (.getfield 74, 3) := by decide +kernel
theorem d108_104 : decode (pg_code 108) 104 = .ok (.bipush 40, 2) := by decide +kernel
theorem d108_106 : decode (pg_code 108) 106 = .ok (.iload_n 1, 1) := by decide +kernel
theorem d108_107 : decode (pg_code 108) 107 = .ok (.imul, 1) := by decide +kernel
theorem d108_108 : decode (pg_code 108) 108 = .ok (.iload_n 2, 1) := by decide +kernel
theorem d108_109 : decode (pg_code 108) 109 = .ok (.iadd, 1) := by decide +kernel
theorem d108_110 : decode (pg_code 108) 110 = .ok (.aload_n 0, 1) := by decide +kernel
theorem d108_111 : decode (pg_code 108) 111 = .ok (.getfield 74, 3) := by decide +kernel
theorem d108_114 : decode (pg_code 108) 114 = .ok (.iload_n 2, 1) := by decide +kernel
theorem d108_115 : decode (pg_code 108) 115 = .ok (.iaload, 1) := by decide +kernel
theorem d108_116 : decode (pg_code 108) 116 = .ok (.iastore, 1) := by decide +kernel
theorem d108_117 : decode (pg_code 108) 117 = .ok (.aload_n 0, 1) := by decide +kernel
theorem d108_118 : decode (pg_code 108) 118 = .ok (.getfield 77, 3) := by decide +kernel
theorem d108_121 : decode (pg_code 108) 121 = .ok (.bipush 40, 2) := by decide +kernel
theorem d108_123 : decode (pg_code 108) 123 = .ok (.iload_n 1, 1) := by decide +kernel
theorem d108_124 : decode (pg_code 108) 124 = .ok (.imul, 1) := by decide +kernel
theorem d108_125 : decode (pg_code 108) 125 = .ok (.iload_n 2, 1) := by decide +kernel
theorem d108_126 : decode (pg_code 108) 126 = .ok (.iadd, 1) := by decide +kernel
theorem d108_127 : decode (pg_code 108) 127 = .ok (.aload_n 0, 1) := by decide +kernel
theorem d108_128 : decode (pg_code 108) 128 = .ok (.getfield 77, 3) := by decide +kernel
theorem d108_131 : decode (pg_code 108) 131 = .ok (.iload_n 2, 1) := by decide +kernel
theorem d108_132 : decode (pg_code 108) 132 = .ok (.iaload, 1) := by decide +kernel
theorem d108_133 : decode (pg_code 108) 133 = .ok (.iastore, 1) := by decide +kernel
theorem d108_134 : decode (pg_code 108) 134 = .ok (.iinc 2 1, 3) := by decide +kernel
theorem d108_137 : decode (pg_code 108) 137 = .ok (.goto (-111), 3) := by decide +kernel
theorem d108_140 : decode (pg_code 108) 140 = .ok (.return_, 1) := by decide +kernel
theorem e108 {b1 b2 : Value} : am_Call L xs d 108 [b1, b2] σ Q = am_Rn L xs d 108 0 [b1, b2, .retAddr 0] [] σ Q := rfl
theorem r108_0  : am_Rn L xs d 108 0 ls st σ Q = am_la ls 0 (fun x => am_Rn L xs d 108 1 ls (x :: st) σ Q) := am_r_aload_n d108_0
theorem r108_1 {p : Nat} : am_Rn L xs d 108 1 ls (.ref p :: st) σ Q = am_fd σ p 6 18 (fun v => am_Rn L xs d 108 4 ls (v :: st) σ Q) := am_r_getfield d108_1 rfl
theorem r108_4  : am_Rn L xs d 108 4 ls st σ Q = am_li ls 1 (fun x => am_Rn L xs d 108 5 ls (.int x :: st) σ Q) := am_r_iload_n d108_4
theorem r108_5  : am_Rn L xs d 108 5 ls st σ Q = am_la ls 0 (fun x => am_Rn L xs d 108 6 ls (x :: st) σ Q) := am_r_aload_n d108_5
theorem r108_6 {p : Nat} : am_Rn L xs d 108 6 ls (.ref p :: st) σ Q = am_fd σ p 6 18 (fun v => am_Rn L xs d 108 9 ls (v :: st) σ Q) := am_r_getfield d108_6 rfl
theorem r108_9  : am_Rn L xs d 108 9 ls st σ Q = am_Rn L xs d 108 10 ls (.int 0 :: st) σ Q := am_r_iconst d108_9 (by decide)
theorem r108_10 {p : Nat} {i : Int32} : am_Rn L xs d 108 10 ls (.int i :: .ref p :: st) σ Q = am_ai 0 σ p i (fun x => am_Rn L xs d 108 11 ls (.int x :: st) σ Q) := am_r_iaload d108_10
theorem r108_11 {p : Nat} {i x : Int32} : am_Rn L xs d 108 11 ls (.int x :: .int i :: .ref p :: st) σ Q = am_wi 0 σ p i x (fun σ1 => am_Rn L xs d 108 12 ls st σ1 Q) := am_r_iastore d108_11
theorem r108_12  : am_Rn L xs d 108 12 ls st σ Q = am_la ls 0 (fun x => am_Rn L xs d 108 13 ls (x :: st) σ Q) := am_r_aload_n d108_12
theorem r108_13 {p : Nat} : am_Rn L xs d 108 13 ls (.ref p :: st) σ Q = am_fd σ p 6 25 (fun v => am_Rn L xs d 108 16 ls (v :: st) σ Q) := am_r_getfield d108_13 rfl
theorem r108_16  : am_Rn L xs d 108 16 ls st σ Q = am_li ls 1 (fun x => am_Rn L xs d 108 17 ls (.int x :: st) σ Q) := am_r_iload_n d108_16
theorem r108_17  : am_Rn L xs d 108 17 ls st σ Q = am_la ls 0 (fun x => am_Rn L xs d 108 18 ls (x :: st) σ Q) := am_r_aload_n d108_17
theorem r108_18 {p : Nat} : am_Rn L xs d 108 18 ls (.ref p :: st) σ Q = am_fd σ p 6 25 (fun v => am_Rn L xs d 108 21 ls (v :: st) σ Q) := am_r_getfield d108_18 rfl
theorem r108_21  : am_Rn L xs d 108 21 ls st σ Q = am_Rn L xs d 108 22 ls (.int 0 :: st) σ Q := am_r_iconst d108_21 (by decide)
theorem r108_22 {p : Nat} {i : Int32} : am_Rn L xs d 108 22 ls (.int i :: .ref p :: st) σ Q = am_ai 0 σ p i (fun x => am_Rn L xs d 108 23 ls (.int x :: st) σ Q) := am_r_iaload d108_22
theorem r108_23 {p : Nat} {i x : Int32} : am_Rn L xs d 108 23 ls (.int x :: .int i :: .ref p :: st) σ Q = am_wi 0 σ p i x (fun σ1 => am_Rn L xs d 108 24 ls st σ1 Q) := am_r_iastore d108_23
theorem r108_24  : am_Rn L xs d 108 24 ls st σ Q = am_Rn L xs d 108 25 ls (.int 0 :: st) σ Q := am_r_iconst d108_24 (by decide)
theorem r108_25 {x : Int32} : am_Rn L xs d 108 25 ls (.int x :: st) σ Q = (2 < ls.length ∧ am_Rn L xs d 108 26 (ls.set 2 (.int x)) st σ Q) := am_r_istore_n d108_25
theorem r108_26  : am_Rn L xs d 108 26 ls st σ Q = am_li ls 2 (fun x => am_Rn L xs d 108 27 ls (.int x :: st) σ Q) := am_r_iload_n d108_26
theorem r108_27  : am_Rn L xs d 108 27 ls st σ Q = am_Rn L xs d 108 29 ls (.int 40 :: st) σ Q := am_r_bipush d108_27 (by decide)
theorem r108_29 {a b : Int32} : am_Rn L xs d 108 29 ls (.int b :: .int a :: st) σ Q = if b ≤ a then am_Rn L xs d 108 140 ls st σ Q else am_Rn L xs d 108 32 ls st σ Q := (am_r_icmp (t := 140) d108_29 (by decide)).trans (am_ite _ _ trivial (by simp only [am_cond, decide_eq_true_eq]))
theorem r108_32  : am_Rn L xs d 108 32 ls st σ Q = am_la ls 0 (fun x => am_Rn L xs d 108 33 ls (x :: st) σ Q) := am_r_aload_n d108_32
theorem r108_33 {p : Nat} : am_Rn L xs d 108 33 ls (.ref p :: st) σ Q = am_fd σ p 6 19 (fun v => am_Rn L xs d 108 36 ls (v :: st) σ Q) := am_r_getfield d108_33 rfl
theorem r108_36  : am_Rn L xs d 108 36 ls st σ Q = am_Rn L xs d 108 38 ls (.int 40 :: st) σ Q := am_r_bipush d108_36 (by decide)
theorem r108_38  : am_Rn L xs d 108 38 ls st σ Q = am_li ls 1 (fun x => am_Rn L xs d 108 39 ls (.int x :: st) σ Q) := am_r_iload_n d108_38
theorem r108_39 {a b : Int32} : am_Rn L xs d 108 39 ls (.int b :: .int a :: st) σ Q = am_Rn L xs d 108 40 ls (.int (a * b) :: st) σ Q := am_r_imul d108_39
theorem r108_40  : am_Rn L xs d 108 40 ls st σ Q = am_li ls 2 (fun x => am_Rn L xs d 108 41 ls (.int x :: st) σ Q) := am_r_iload_n d108_40
theorem r108_41 {a b : Int32} : am_Rn L xs d 108 41 ls (.int b :: .int a :: st) σ Q = am_Rn L xs d 108 42 ls (.int (a + b) :: st) σ Q := am_r_iadd d108_41
theorem r108_42  : am_Rn L xs d 108 42 ls st σ Q = am_la ls 0 (fun x => am_Rn L xs d 108 43 ls (x :: st) σ Q) := am_r_aload_n d108_42
theorem r108_43 {p : Nat} : am_Rn L xs d 108 43 ls (.ref p :: st) σ Q = am_fd σ p 6 19 (fun v => am_Rn L xs d 108 46 ls (v :: st) σ Q) := am_r_getfield d108_43 rfl
theorem r108_46  : am_Rn L xs d 108 46 ls st σ Q = am_li ls 2 (fun x => am_Rn L xs d 108 47 ls (.int x :: st) σ Q) := am_r_iload_n d108_46
theorem r108_47 {p : Nat} {i : Int32} : am_Rn L xs d 108 47 ls (.int i :: .ref p :: st) σ Q = am_ai 0 σ p i (fun x => am_Rn L xs d 108 48 ls (.int x :: st) σ Q) := am_r_iaload d108_47
theorem r108_48 {p : Nat} {i x : Int32} : am_Rn L xs d 108 48 ls (.int x :: .int i :: .ref p :: st) σ Q = am_wi 0 σ p i x (fun σ1 => am_Rn L xs d 108 49 ls st σ1 Q) := am_r_iastore d108_48
theorem r108_49  : am_Rn L xs d 108 49 ls st σ Q = am_la ls 0 (fun x => am_Rn L xs d 108 50 ls (x :: st) σ Q) := am_r_aload_n d108_49
theorem r108_50 {p : Nat} : am_Rn L xs d 108 50 ls (.ref p :: st) σ Q = am_fd σ p 6 20 (fun v => am_Rn L xs d 108 53 ls (v :: st) σ Q) := am_r_getfield d108_50 rfl
theorem r108_53  : am_Rn L xs d 108 53 ls st σ Q = am_Rn L xs d 108 55 ls (.int 40 :: st) σ Q := am_r_bipush d108_53 (by decide)
theorem r108_55  : am_Rn L xs d 108 55 ls st σ Q = am_li ls 1 (fun x => am_Rn L xs d 108 56 ls (.int x :: st) σ Q) := am_r_iload_n d108_55
theorem r108_56 {a b : Int32} : am_Rn L xs d 108 56 ls (.int b :: .int a :: st) σ Q = am_Rn L xs d 108 57 ls (.int (a * b) :: st) σ Q := am_r_imul d108_56
theorem r108_57  : am_Rn L xs d 108 57 ls st σ Q = am_li ls 2 (fun x => am_Rn L xs d 108 58 ls (.int x :: st) σ Q) := am_r_iload_n d108_57
theorem r108_58 {a b : Int32} : am_Rn L xs d 108 58 ls (.int b :: .int a :: st) σ Q = am_Rn L xs d 108 59 ls (.int (a + b) :: st) σ Q := am_r_iadd d108_58
theorem r108_59  : am_Rn L xs d 108 59 ls st σ Q = am_la ls 0 (fun x => am_Rn L xs d 108 60 ls (x :: st) σ Q) := am_r_aload_n d108_59
theorem r108_60 {p : Nat} : am_Rn L xs d 108 60 ls (.ref p :: st) σ Q = am_fd σ p 6 20 (fun v => am_Rn L xs d 108 63 ls (v :: st) σ Q) := am_r_getfield d108_60 rfl
theorem r108_63  : am_Rn L xs d 108 63 ls st σ Q = am_li ls 2 (fun x => am_Rn L xs d 108 64 ls (.int x :: st) σ Q) := am_r_iload_n d108_63
theorem r108_64 {p : Nat} {i : Int32} : am_Rn L xs d 108 64 ls (.int i :: .ref p :: st) σ Q = am_ai 0 σ p i (fun x => am_Rn L xs d 108 65 ls (.int x :: st) σ Q) := am_r_iaload d108_64
theorem r108_65 {p : Nat} {i x : Int32} : am_Rn L xs d 108 65 ls (.int x :: .int i :: .ref p :: st) σ Q = am_wi 0 σ p i x (fun σ1 => am_Rn L xs d 108 66 ls st σ1 Q) := am_r_iastore d108_65
theorem r108_66  : am_Rn L xs d 108 66 ls st σ Q = am_la ls 0 (fun x => am_Rn L xs d 108 67 ls (x :: st) σ Q) := am_r_aload_n d108_66
theorem r108_67 {p : Nat} : am_Rn L xs d 108 67 ls (.ref p :: st) σ Q = am_fd σ p 6 21 (fun v => am_Rn L xs d 108 70 ls (v :: st) σ Q) := am_r_getfield d108_67 rfl
theorem r108_70  : am_Rn L xs d 108 70 ls st σ Q = am_Rn L xs d 108 72 ls (.int 40 :: st) σ Q := am_r_bipush d108_70 (by decide)
theorem r108_72  : am_Rn L xs d 108 72 ls st σ Q = am_li ls 1 (fun x => am_Rn L xs d 108 73 ls (.int x :: st) σ Q) := am_r_iload_n d108_72
theorem r108_73 {a b : Int32} : am_Rn L xs d 108 73 ls (.int b :: .int a :: st) σ Q = am_Rn L xs d 108 74 ls (.int (a * b) :: st) σ Q := am_r_imul d108_73
theorem r108_74  : am_Rn L xs d 108 74 ls st σ Q = am_li ls 2 (fun x => am_Rn L xs d 108 75 ls (.int x :: st) σ Q) := am_r_iload_n d108_74
theorem r108_75 {a b : Int32} : am_Rn L xs d 108 75 ls (.int b :: .int a :: st) σ Q = am_Rn L xs d 108 76 ls (.int (a + b) :: st) σ Q := am_r_iadd d108_75
theorem r108_76  : am_Rn L xs d 108 76 ls st σ Q = am_la ls 0 (fun x => am_Rn L xs d 108 77 ls (x :: st) σ Q) := am_r_aload_n d108_76
theorem r108_77 {p : Nat} : am_Rn L xs d 108 77 ls (.ref p :: st) σ Q = am_fd σ p 6 21 (fun v => am_Rn L xs d 108 80 ls (v :: st) σ Q) := am_r_getfield d108_77 rfl
theorem r108_80  : am_Rn L xs d 108 80 ls st σ Q = am_li ls 2 (fun x => am_Rn L xs d 108 81 ls (.int x :: st) σ Q) := am_r_iload_n d108_80
theorem r108_81 {p : Nat} {i : Int32} : am_Rn L xs d 108 81 ls (.int i :: .ref p :: st) σ Q = am_ai 0 σ p i (fun x => am_Rn L xs d 108 82 ls (.int x :: st) σ Q) := am_r_iaload d108_81
theorem r108_82 {p : Nat} {i x : Int32} : am_Rn L xs d 108 82 ls (.int x :: .int i :: .ref p :: st) σ Q = am_wi 0 σ p i x (fun σ1 => am_Rn L xs d 108 83 ls st σ1 Q) := am_r_iastore d108_82
theorem r108_83  : am_Rn L xs d 108 83 ls st σ Q = am_la ls 0 (fun x => am_Rn L xs d 108 84 ls (x :: st) σ Q) := am_r_aload_n d108_83
theorem r108_84 {p : Nat} : am_Rn L xs d 108 84 ls (.ref p :: st) σ Q = am_fd σ p 6 22 (fun v => am_Rn L xs d 108 87 ls (v :: st) σ Q) := am_r_getfield d108_84 rfl
theorem r108_87  : am_Rn L xs d 108 87 ls st σ Q = am_Rn L xs d 108 89 ls (.int 40 :: st) σ Q := am_r_bipush d108_87 (by decide)
theorem r108_89  : am_Rn L xs d 108 89 ls st σ Q = am_li ls 1 (fun x => am_Rn L xs d 108 90 ls (.int x :: st) σ Q) := am_r_iload_n d108_89
theorem r108_90 {a b : Int32} : am_Rn L xs d 108 90 ls (.int b :: .int a :: st) σ Q = am_Rn L xs d 108 91 ls (.int (a * b) :: st) σ Q := am_r_imul d108_90
theorem r108_91  : am_Rn L xs d 108 91 ls st σ Q = am_li ls 2 (fun x => am_Rn L xs d 108 92 ls (.int x :: st) σ Q) := am_r_iload_n d108_91
theorem r108_92 {a b : Int32} : am_Rn L xs d 108 92 ls (.int b :: .int a :: st) σ Q = am_Rn L xs d 108 93 ls (.int (a + b) :: st) σ Q := am_r_iadd d108_92
theorem r108_93  : am_Rn L xs d 108 93 ls st σ Q = am_la ls 0 (fun x => am_Rn L xs d 108 94 ls (x :: st) σ Q) := am_r_aload_n d108_93
theorem r108_94 {p : Nat} : am_Rn L xs d 108 94 ls (.ref p :: st) σ Q = am_fd σ p 6 22 (fun v => am_Rn L xs d 108 97 ls (v :: st) σ Q) := am_r_getfield d108_94 rfl
theorem r108_97  : am_Rn L xs d 108 97 ls st σ Q = am_li ls 2 (fun x => am_Rn L xs d 108 98 ls (.int x :: st) σ Q) := am_r_iload_n d108_97
theorem r108_98 {p : Nat} {i : Int32} : am_Rn L xs d 108 98 ls (.int i :: .ref p :: st) σ Q = am_ai 0 σ p i (fun x => am_Rn L xs d 108 99 ls (.int x :: st) σ Q) := am_r_iaload d108_98
theorem r108_99 {p : Nat} {i x : Int32} : am_Rn L xs d 108 99 ls (.int x :: .int i :: .ref p :: st) σ Q = am_wi 0 σ p i x (fun σ1 => am_Rn L xs d 108 100 ls st σ1 Q) := am_r_iastore d108_99
theorem r108_100  : am_Rn L xs d 108 100 ls st σ Q = am_la ls 0 (fun x => am_Rn L xs d 108 101 ls (x :: st) σ Q) := am_r_aload_n d108_100
theorem r108_101 {p : Nat} : am_Rn L xs d 108 101 ls (.ref p :: st) σ Q = am_fd σ p 6 23 (fun v => am_Rn L xs d 108 104 ls (v :: st) σ Q) := am_r_getfield d108_101 rfl
theorem r108_104  : am_Rn L xs d 108 104 ls st σ Q = am_Rn L xs d 108 106 ls (.int 40 :: st) σ Q := am_r_bipush d108_104 (by decide)
theorem r108_106  : am_Rn L xs d 108 106 ls st σ Q = am_li ls 1 (fun x => am_Rn L xs d 108 107 ls (.int x :: st) σ Q) := am_r_iload_n d108_106
theorem r108_107 {a b : Int32} : am_Rn L xs d 108 107 ls (.int b :: .int a :: st) σ Q = am_Rn L xs d 108 108 ls (.int (a * b) :: st) σ Q := am_r_imul d108_107
theorem r108_108  : am_Rn L xs d 108 108 ls st σ Q = am_li ls 2 (fun x => am_Rn L xs d 108 109 ls (.int x :: st) σ Q) := am_r_iload_n d108_108
theorem r108_109 {a b : Int32} : am_Rn L xs d 108 109 ls (.int b :: .int a :: st) σ Q = am_Rn L xs d 108 110 ls (.int (a + b) :: st) σ Q := am_r_iadd d108_109
theorem r108_110  : am_Rn L xs d 108 110 ls st σ Q = am_la ls 0 (fun x => am_Rn L xs d 108 111 ls (x :: st) σ Q) := am_r_aload_n d108_110
theorem r108_111 {p : Nat} : am_Rn L xs d 108 111 ls (.ref p :: st) σ Q = am_fd σ p 6 23 (fun v => am_Rn L xs d 108 114 ls (v :: st) σ Q) := am_r_getfield d108_111 rfl
theorem r108_114  : am_Rn L xs d 108 114 ls st σ Q = am_li ls 2 (fun x => am_Rn L xs d 108 115 ls (.int x :: st) σ Q) := am_r_iload_n d108_114
theorem r108_115 {p : Nat} {i : Int32} : am_Rn L xs d 108 115 ls (.int i :: .ref p :: st) σ Q = am_ai 0 σ p i (fun x => am_Rn L xs d 108 116 ls (.int x :: st) σ Q) := am_r_iaload d108_115
theorem r108_116 {p : Nat} {i x : Int32} : am_Rn L xs d 108 116 ls (.int x :: .int i :: .ref p :: st) σ Q = am_wi 0 σ p i x (fun σ1 => am_Rn L xs d 108 117 ls st σ1 Q) := am_r_iastore d108_116
theorem r108_117  : am_Rn L xs d 108 117 ls st σ Q = am_la ls 0 (fun x => am_Rn L xs d 108 118 ls (x :: st) σ Q) := am_r_aload_n d108_117
theorem r108_118 {p : Nat} : am_Rn L xs d 108 118 ls (.ref p :: st) σ Q = am_fd σ p 6 24 (fun v => am_Rn L xs d 108 121 ls (v :: st) σ Q) := am_r_getfield d108_118 rfl
theorem r108_121  : am_Rn L xs d 108 121 ls st σ Q = am_Rn L xs d 108 123 ls (.int 40 :: st) σ Q := am_r_bipush d108_121 (by decide)
theorem r108_123  : am_Rn L xs d 108 123 ls st σ Q = am_li ls 1 (fun x => am_Rn L xs d 108 124 ls (.int x :: st) σ Q) := am_r_iload_n d108_123
theorem r108_124 {a b : Int32} : am_Rn L xs d 108 124 ls (.int b :: .int a :: st) σ Q = am_Rn L xs d 108 125 ls (.int (a * b) :: st) σ Q := am_r_imul d108_124
theorem r108_125  : am_Rn L xs d 108 125 ls st σ Q = am_li ls 2 (fun x => am_Rn L xs d 108 126 ls (.int x :: st) σ Q) := am_r_iload_n d108_125
theorem r108_126 {a b : Int32} : am_Rn L xs d 108 126 ls (.int b :: .int a :: st) σ Q = am_Rn L xs d 108 127 ls (.int (a + b) :: st) σ Q := am_r_iadd d108_126
theorem r108_127  : am_Rn L xs d 108 127 ls st σ Q = am_la ls 0 (fun x => am_Rn L xs d 108 128 ls (x :: st) σ Q) := am_r_aload_n d108_127
theorem r108_128 {p : Nat} : am_Rn L xs d 108 128 ls (.ref p :: st) σ Q = am_fd σ p 6 24 (fun v => am_Rn L xs d 108 131 ls (v :: st) σ Q) := am_r_getfield d108_128 rfl
theorem r108_131  : am_Rn L xs d 108 131 ls st σ Q = am_li ls 2 (fun x => am_Rn L xs d 108 132 ls (.int x :: st) σ Q) := am_r_iload_n d108_131
theorem r108_132 {p : Nat} {i : Int32} : am_Rn L xs d 108 132 ls (.int i :: .ref p :: st) σ Q = am_ai 0 σ p i (fun x => am_Rn L xs d 108 133 ls (.int x :: st) σ Q) := am_r_iaload d108_132
theorem r108_133 {p : Nat} {i x : Int32} : am_Rn L xs d 108 133 ls (.int x :: .int i :: .ref p :: st) σ Q = am_wi 0 σ p i x (fun σ1 => am_Rn L xs d 108 134 ls st σ1 Q) := am_r_iastore d108_133
theorem r108_134  : am_Rn L xs d 108 134 ls st σ Q = am_li ls 2 (fun x => am_Rn L xs d 108 137 (ls.set 2 (.int (x + 1))) st σ Q) := am_r_iinc d108_134 (by decide)
theorem r108_137  : am_Rn L xs d 108 137 ls st σ Q = am_Rn L xs d 108 26 ls st σ Q := am_r_goto d108_137 (by decide)
theorem r108_140  : am_Rn L xs d 108 140 ls [] σ Q = Q none σ := am_r_return d108_140 rfl
theorem d109_0 : decode (pg_code 109) 0 = .ok (.aload_n 0, 1) := by decide +kernel
theorem d109_1 : decode (pg_code 109) 1 = .ok (.getfield 190, 3) := by decide +kernel
theorem d109_4 : decode (pg_code 109) 4 = .ok (.ifCond .eq 26, 3) := by decide +kernel
theorem d109_7 : decode (pg_code 109) 7 = .ok (.iload_n 1, 1) := by decide +kernel
theorem d109_8 : decode (pg_code 109) 8 = .ok (.ifCond .lt 22, 3) := by decide +kernel
theorem d109_11 : decode (pg_code 109) 11 = .ok (.iload_n 1, 1) := by decide +kernel
theorem d109_12 : decode (pg_code 109) 12 = .ok (.aload_n 0, 1) := by decide +kernel
theorem d109_13 : decode (pg_code 109) 13 = .ok (.getfield 7, 3) := by decide +kernel
theorem d109_16 : decode (pg_code 109) 16 = .ok (.iconst 3, 1) := by decide +kernel
theorem d109_17 : decode (pg_code 109) 17 = .ok (.iaload, 1) := by decide +kernel
theorem d109_18 : decode (pg_code 109) 18 = .ok (.if_icmp .ge 12, 3) := by decide +kernel
theorem d109_21 : decode (pg_code 109) 21 = .ok (.aload_n 0, 1) := by decide +kernel
theorem d109_22 : decode (pg_code 109) 22 = .ok (.getfield 83, 3) := by decide +kernel
theorem d109_25 : decode (pg_code 109) 25 = .ok (.iload_n 1, 1) := by decide +kernel
theorem d109_26 : decode (pg_code 109) 26 = .ok (.iaload, 1) := by decide +kernel
theorem d109_27 : decode (pg_code 109) 27 = .ok (.goto 4, 3) := by decide +kernel
theorem d109_30 : decode (pg_code 109) 30 = .ok (.iconst (-1), 1) := by decide +kernel
theorem d109_31 : decode (pg_code 109) 31 = .ok (.ireturn, 1) := by decide +kernel
theorem e109 {b1 b2 : Value} : am_Call L xs d 109 [b1, b2] σ Q = am_Rn L xs d 109 0 [b1, b2] [] σ Q := rfl
theorem r109_0  : am_Rn L xs d 109 0 ls st σ Q = am_la ls 0 (fun x => am_Rn L xs d 109 1 ls (x :: st) σ Q) := am_r_aload_n d109_0
theorem r109_1 {p : Nat} : am_Rn L xs d 109 1 ls (.ref p :: st) σ Q = am_fd σ p 6 26 (fun v => am_Rn L xs d 109 4 ls (v :: st) σ Q) := am_r_getfield d109_1 rfl
theorem r109_4 {a : Int32} : am_Rn L xs d 109 4 ls (.int a :: st) σ Q = if a = 0 then am_Rn L xs d 109 30 ls st σ Q else am_Rn L xs d 109 7 ls st σ Q := (am_r_if (t := 30) d109_4 (by decide)).trans (am_ite _ _ trivial (by simp only [am_cond, decide_eq_true_eq]))
theorem r109_7  : am_Rn L xs d 109 7 ls st σ Q = am_li ls 1 (fun x => am_Rn L xs d 109 8 ls (.int x :: st) σ Q) := am_r_iload_n d109_7
theorem r109_8 {a : Int32} : am_Rn L xs d 109 8 ls (.int a :: st) σ Q = if a < 0 then am_Rn L xs d 109 30 ls st σ Q else am_Rn L xs d 109 11 ls st σ Q := (am_r_if (t := 30) d109_8 (by decide)).trans (am_ite _ _ trivial (by simp only [am_cond, decide_eq_true_eq]))
theorem r109_11  : am_Rn L xs d 109 11 ls st σ Q = am_li ls 1 (fun x => am_Rn L xs d 109 12 ls (.int x :: st) σ Q) := am_r_iload_n d109_11
theorem r109_12  : am_Rn L xs d 109 12 ls st σ Q = am_la ls 0 (fun x => am_Rn L xs d 109 13 ls (x :: st) σ Q) := am_r_aload_n d109_12
theorem r109_13 {p : Nat} : am_Rn L xs d 109 13 ls (.ref p :: st) σ Q = am_fd σ p 6 0 (fun v => am_Rn L xs d 109 16 ls (v :: st) σ Q) := am_r_getfield d109_13 rfl
theorem r109_16  : am_Rn L xs d 109 16 ls st σ Q = am_Rn L xs d 109 17 ls (.int 3 :: st) σ Q := am_r_iconst d109_16 (by decide)
theorem r109_17 {p : Nat} {i : Int32} : am_Rn L xs d 109 17 ls (.int i :: .ref p :: st) σ Q = am_ai 0 σ p i (fun x => am_Rn L xs d 109 18 ls (.int x :: st) σ Q) := am_r_iaload d109_17
theorem r109_18 {a b : Int32} : am_Rn L xs d 109 18 ls (.int b :: .int a :: st) σ Q = if b ≤ a then am_Rn L xs d 109 30 ls st σ Q else am_Rn L xs d 109 21 ls st σ Q := (am_r_icmp (t := 30) d109_18 (by decide)).trans (am_ite _ _ trivial (by simp only [am_cond, decide_eq_true_eq]))
theorem r109_21  : am_Rn L xs d 109 21 ls st σ Q = am_la ls 0 (fun x => am_Rn L xs d 109 22 ls (x :: st) σ Q) := am_r_aload_n d109_21
theorem r109_22 {p : Nat} : am_Rn L xs d 109 22 ls (.ref p :: st) σ Q = am_fd σ p 6 27 (fun v => am_Rn L xs d 109 25 ls (v :: st) σ Q) := am_r_getfield d109_22 rfl
theorem r109_25  : am_Rn L xs d 109 25 ls st σ Q = am_li ls 1 (fun x => am_Rn L xs d 109 26 ls (.int x :: st) σ Q) := am_r_iload_n d109_25
theorem r109_26 {p : Nat} {i : Int32} : am_Rn L xs d 109 26 ls (.int i :: .ref p :: st) σ Q = am_ai 0 σ p i (fun x => am_Rn L xs d 109 27 ls (.int x :: st) σ Q) := am_r_iaload d109_26
theorem r109_27  : am_Rn L xs d 109 27 ls st σ Q = am_Rn L xs d 109 31 ls st σ Q := am_r_goto d109_27 (by decide)
theorem r109_30  : am_Rn L xs d 109 30 ls st σ Q = am_Rn L xs d 109 31 ls (.int (-1) :: st) σ Q := am_r_iconst d109_30 (by decide)
theorem r109_31 {v : Int32} : am_Rn L xs d 109 31 ls [.int v] σ Q = Q (some (.int v)) σ := am_r_ireturn d109_31 rfl
theorem d110_0 : decode (pg_code 110) 0 = .ok (.aload_n 0, 1) := by decide +kernel
theorem d110_1 : decode (pg_code 110) 1 = .ok (.getfield 190, 3) := by decide +kernel
theorem d110_4 : decode (pg_code 110) 4 = .ok (.ifCond .eq 26, 3) := by decide +kernel
theorem d110_7 : decode (pg_code 110) 7 = .ok (.iload_n 1, 1) := by decide +kernel
theorem d110_8 : decode (pg_code 110) 8 = .ok (.ifCond .lt 22, 3) := by decide +kernel
theorem d110_11 : decode (pg_code 110) 11 = .ok (.iload_n 1, 1) := by decide +kernel
theorem d110_12 : decode (pg_code 110) 12 = .ok (.aload_n 0, 1) := by decide +kernel
theorem d110_13 : decode (pg_code 110) 13 = .ok (.getfield 59, 3) := by decide +kernel
theorem d110_16 : decode (pg_code 110) 16 = .ok (.iconst 1, 1) := by decide +kernel
theorem d110_17 : decode (pg_code 110) 17 = .ok (.iaload, 1) := by decide +kernel
theorem d110_18 : decode (pg_code 110) 18 = .ok (.if_icmp .ge 12, 3) := by decide +kernel
theorem d110_21 : decode (pg_code 110) 21 = .ok (.iload_n 2, 1) := by decide +kernel
theorem d110_22 : decode (pg_code 110) 22 = .ok (.ifCond .lt 8, 3) := by decide +kernel
theorem d110_25 : decode (pg_code 110) 25 = .ok (.iload_n 2, 1) := by decide +kernel
theorem d110_26 : decode (pg_code 110) 26 = .ok (.iconst 5, 1) := by decide +kernel
theorem d110_27 : decode (pg_code 110) 27 = .ok (.if_icmp .le 6, 3) := by decide +kernel
theorem d110_30 : decode (pg_code 110) 30 = .ok (.bipush (-2), 2) := by decide +kernel
theorem d110_32 : decode (pg_code 110) 32 = .ok (.ireturn, 1) := by decide +kernel
theorem d110_33 : decode (pg_code 110) 33 = .ok (.bipush 40, 2) := by decide +kernel
theorem d110_35 : decode (pg_code 110) 35 = .ok (.iload_n 1, 1) := by decide +kernel
theorem d110_36 : decode (pg_code 110) 36 = .ok (.iadd, 1) := by decide +kernel
theorem d110_37 : decode (pg_code 110) 37 = .ok (.istore_n 3, 1) := by decide +kernel
theorem d110_38 : decode (pg_code 110) 38 = .ok (.iload_n 2, 1) := by decide +kernel
theorem d110_39 : decode (pg_code 110) 39 = .ok (.ifCond .ne 12, 3) := by decide +kernel
theorem d110_42 : decode (pg_code 110) 42 = .ok (.aload_n 0, 1) := by decide +kernel
theorem d110_43 : decode (pg_code 110) 43 = .ok (.getfield 62, 3) := by decide +kernel
theorem d110_46 : decode (pg_code 110) 46 = .ok (.iload_n 3, 1) := by decide +kernel
theorem d110_47 : decode (pg_code 110) 47 = .ok (.iaload, 1) := by decide +kernel
theorem d110_48 : decode (pg_code 110) 48 = .ok (.goto 65, 3) := by decide +kernel
theorem d110_51 : decode (pg_code 110) 51 = .ok (.iload_n 2, 1) := by decide +kernel
theorem d110_52 : decode (pg_code 110) 52 = .ok (.iconst 1, 1) := by decide +kernel
theorem d110_53 : decode (pg_code 110) 53 = .ok (.if_icmp .ne 12, 3) := by decide +kernel
theorem d110_56 : decode (pg_code 110) 56 = .ok (.aload_n 0, 1) := by decide +kernel
theorem d110_57 : decode (pg_code 110) 57 = .ok (.getfield 65, 3) := by decide +kernel
theorem d110_60 : decode (pg_code 110) 60 = .ok (.iload_n 3, 1) := by decide +kernel
theorem d110_61 : decode (pg_code 110) 61 = .ok (.iaload, 1) := by decide +kernel
theorem d110_62 : decode (pg_code 110) 62 = .ok (.goto 51, 3) := by decide +kernel
theorem d110_65 : decode (pg_code 110) 65 = .ok (.iload_n 2, 1) := by decide +kernel
theorem d110_66 : decode (pg_code 110) 66 = .ok (.iconst 2, 1) := by decide +kernel
theorem d110_67 : decode (pg_code 110) 67 = .ok (.if_icmp .ne 12, 3) := by decide +kernel
theorem d110_70 : decode (pg_code 110) 70 = .ok (.aload_n 0, 1) := by decide +kernel
theorem d110_71 : decode (pg_code 110) 71 = .ok (.getfield 68, 3) := by decide +kernel
theorem d110_74 : decode (pg_code 110) 74 = .ok (.iload_n 3, 1) := by decide +kernel
theorem d110_75 : decode (pg_code 110) 75 = .ok (.iaload, 1) := by decide +kernel
theorem d110_76 : decode (pg_code 110) 76 = .ok (.goto 37, 3) := by decide +kernel
theorem d110_79 : decode (pg_code 110) 79 = .ok (.iload_n 2, 1) := by decide +kernel
theorem d110_80 : decode (pg_code 110) 80 = .ok (.iconst 3, 1) := by decide +kernel
theorem d110_81 : decode (pg_code 110) 81 = .ok (.if_icmp .ne 12, 3) := by decide +kernel
theorem d110_84 : decode (pg_code 110) 84 = .ok (.aload_n 0, 1) := by decide +kernel
theorem d110_85 : decode (pg_code 110) 85 = .ok (.getfield 71, 3) := by decide +kernel
theorem d110_88 : decode (pg_code 110) 88 = .ok (.iload_n 3, 1) := by decide +kernel
theorem d110_89 : decode (pg_code 110) 89 = .ok (.iaload, 1) := by decide +kernel
theorem d110_90 : decode (pg_code 110) 90 = .ok (.goto 23, 3) := by decide +kernel
theorem d110_93 : decode (pg_code 110) 93 = .ok (.iload_n 2, 1) := by decide +kernel
theorem d110_94 : decode (pg_code 110) 94 = .ok (.iconst 4, 1) := by decide +kernel
theorem d110_95 : decode (pg_code 110) 95 = .ok (.if_icmp .ne 12, 3) := by decide +kernel
theorem d110_98 : decode (pg_code 110) 98 = .ok (.aload_n 0, 1) := by decide +kernel
theorem d110_99 : decode (pg_code 110) 99 = .ok (.getfield 74, 3) := by decide +kernel
theorem d110_102 : decode (pg_code 110) 102 = .ok (.iload_n 3, 1) := by decide +kernel
theorem d110_103 : decode (pg_code 110) 103 = .ok (.iaload, 1) := by decide +kernel
theorem d110_104 : decode (pg_code 110) 104 = .ok (.goto 9, 3) := by decide +kernel
theorem d110_107 : decode (pg_code 110) 107 = .ok (.aload_n 0, 1) := by decide +kernel
theorem d110_108 : decode (pg_code 110) 108 = .ok (.getfield 77, 3) := by decide +kernel
theorem d110_111 : decode (pg_code 110) 111 = .ok (.iload_n 3, 1) := by decide +kernel
theorem d110_112 : decode (pg_code 110) 112 = .ok (.iaload, 1) := by decide +kernel
theorem d110_113 : decode (pg_code 110) 113 = .ok (.ireturn, 1) := by decide +kernel
theorem e110 {b1 b2 b3 : Value} : am_Call L xs d 110 [b1, b2, b3] σ Q = am_Rn L xs d 110 0 [b1, b2, b3, .retAddr 0] [] σ Q := rfl
theorem r110_0  : am_Rn L xs d 110 0 ls st σ Q = am_la ls 0 (fun x => am_Rn L xs d 110 1 ls (x :: st) σ Q) := am_r_aload_n d110_0
theorem r110_1 {p : Nat} : am_Rn L xs d 110 1 ls (.ref p :: st) σ Q = am_fd σ p 6 26 (fun v => am_Rn L xs d 110 4 ls (v :: st) σ Q) := am_r_getfield d110_1 rfl
theorem r110_4 {a : Int32} : am_Rn L xs d 110 4 ls (.int a :: st) σ Q = if a = 0 then am_Rn L xs d 110 30 ls st σ Q else am_Rn L xs d 110 7 ls st σ Q := (am_r_if (t := 30) d110_4 (by decide)).trans (am_ite _ _ trivial (by simp only [am_cond, decide_eq_true_eq]))
theorem r110_7  : am_Rn L xs d 110 7 ls st σ Q = am_li ls 1 (fun x => am_Rn L xs d 110 8 ls (.int x :: st) σ Q) := am_r_iload_n d110_7
theorem r110_8 {a : Int32} : am_Rn L xs d 110 8 ls (.int a :: st) σ Q = if a < 0 then am_Rn L xs d 110 30 ls st σ Q else am_Rn L xs d 110 11 ls st σ Q := (am_r_if (t := 30) d110_8 (by decide)).trans (am_ite _ _ trivial (by simp only [am_cond, decide_eq_true_eq]))
theorem r110_11  : am_Rn L xs d 110 11 ls st σ Q = am_li ls 1 (fun x => am_Rn L xs d 110 12 ls (.int x :: st) σ Q) := am_r_iload_n d110_11
theorem r110_12  : am_Rn L xs d 110 12 ls st σ Q = am_la ls 0 (fun x => am_Rn L xs d 110 13 ls (x :: st) σ Q) := am_r_aload_n d110_12
theorem r110_13 {p : Nat} : am_Rn L xs d 110 13 ls (.ref p :: st) σ Q = am_fd σ p 6 18 (fun v => am_Rn L xs d 110 16 ls (v :: st) σ Q) := am_r_getfield d110_13 rfl
theorem r110_16  : am_Rn L xs d 110 16 ls st σ Q = am_Rn L xs d 110 17 ls (.int 1 :: st) σ Q := am_r_iconst d110_16 (by decide)
theorem r110_17 {p : Nat} {i : Int32} : am_Rn L xs d 110 17 ls (.int i :: .ref p :: st) σ Q = am_ai 0 σ p i (fun x => am_Rn L xs d 110 18 ls (.int x :: st) σ Q) := am_r_iaload d110_17
theorem r110_18 {a b : Int32} : am_Rn L xs d 110 18 ls (.int b :: .int a :: st) σ Q = if b ≤ a then am_Rn L xs d 110 30 ls st σ Q else am_Rn L xs d 110 21 ls st σ Q := (am_r_icmp (t := 30) d110_18 (by decide)).trans (am_ite _ _ trivial (by simp only [am_cond, decide_eq_true_eq]))
theorem r110_21  : am_Rn L xs d 110 21 ls st σ Q = am_li ls 2 (fun x => am_Rn L xs d 110 22 ls (.int x :: st) σ Q) := am_r_iload_n d110_21
theorem r110_22 {a : Int32} : am_Rn L xs d 110 22 ls (.int a :: st) σ Q = if a < 0 then am_Rn L xs d 110 30 ls st σ Q else am_Rn L xs d 110 25 ls st σ Q := (am_r_if (t := 30) d110_22 (by decide)).trans (am_ite _ _ trivial (by simp only [am_cond, decide_eq_true_eq]))
theorem r110_25  : am_Rn L xs d 110 25 ls st σ Q = am_li ls 2 (fun x => am_Rn L xs d 110 26 ls (.int x :: st) σ Q) := am_r_iload_n d110_25
theorem r110_26  : am_Rn L xs d 110 26 ls st σ Q = am_Rn L xs d 110 27 ls (.int 5 :: st) σ Q := am_r_iconst d110_26 (by decide)
theorem r110_27 {a b : Int32} : am_Rn L xs d 110 27 ls (.int b :: .int a :: st) σ Q = if a ≤ b then am_Rn L xs d 110 33 ls st σ Q else am_Rn L xs d 110 30 ls st σ Q := (am_r_icmp (t := 33) d110_27 (by decide)).trans (am_ite _ _ trivial (by simp only [am_cond, decide_eq_true_eq]))
theorem r110_30  : am_Rn L xs d 110 30 ls st σ Q = am_Rn L xs d 110 32 ls (.int (-2) :: st) σ Q := am_r_bipush d110_30 (by decide)
theorem r110_32 {v : Int32} : am_Rn L xs d 110 32 ls [.int v] σ Q = Q (some (.int v)) σ := am_r_ireturn d110_32 rfl
theorem r110_33  : am_Rn L xs d 110 33 ls st σ Q = am_Rn L xs d 110 35 ls (.int 40 :: st) σ Q := am_r_bipush d110_33 (by decide)
theorem r110_35  : am_Rn L xs d 110 35 ls st σ Q = am_li ls 1 (fun x => am_Rn L xs d 110 36 ls (.int x :: st) σ Q) := am_r_iload_n d110_35
theorem r110_36 {a b : Int32} : am_Rn L xs d 110 36 ls (.int b :: .int a :: st) σ Q = am_Rn L xs d 110 37 ls (.int (a + b) :: st) σ Q := am_r_iadd d110_36
theorem r110_37 {x : Int32} : am_Rn L xs d 110 37 ls (.int x :: st) σ Q = (3 < ls.length ∧ am_Rn L xs d 110 38 (ls.set 3 (.int x)) st σ Q) := am_r_istore_n d110_37
theorem r110_38  : am_Rn L xs d 110 38 ls st σ Q = am_li ls 2 (fun x => am_Rn L xs d 110 39 ls (.int x :: st) σ Q) := am_r_iload_n d110_38
theorem r110_39 {a : Int32} : am_Rn L xs d 110 39 ls (.int a :: st) σ Q = if ¬ a = 0 then am_Rn L xs d 110 51 ls st σ Q else am_Rn L xs d 110 42 ls st σ Q := (am_r_if (t := 51) d110_39 (by decide)).trans (am_ite _ _ trivial (by simp only [am_cond, decide_eq_true_eq]))
theorem r110_42  : am_Rn L xs d 110 42 ls st σ Q = am_la ls 0 (fun x => am_Rn L xs d 110 43 ls (x :: st) σ Q) := am_r_aload_n d110_42
theorem r110_43 {p : Nat} : am_Rn L xs d 110 43 ls (.ref p :: st) σ Q = am_fd σ p 6 19 (fun v => am_Rn L xs d 110 46 ls (v :: st) σ Q) := am_r_getfield d110_43 rfl
theorem r110_46  : am_Rn L xs d 110 46 ls st σ Q = am_li ls 3 (fun x => am_Rn L xs d 110 47 ls (.int x :: st) σ Q) := am_r_iload_n d110_46
theorem r110_47 {p : Nat} {i : Int32} : am_Rn L xs d 110 47 ls (.int i :: .ref p :: st) σ Q = am_ai 0 σ p i (fun x => am_Rn L xs d 110 48 ls (.int x :: st) σ Q) := am_r_iaload d110_47
theorem r110_48  : am_Rn L xs d 110 48 ls st σ Q = am_Rn L xs d 110 113 ls st σ Q := am_r_goto d110_48 (by decide)
theorem r110_51  : am_Rn L xs d 110 51 ls st σ Q = am_li ls 2 (fun x => am_Rn L xs d 110 52 ls (.int x :: st) σ Q) := am_r_iload_n d110_51
theorem r110_52  : am_Rn L xs d 110 52 ls st σ Q = am_Rn L xs d 110 53 ls (.int 1 :: st) σ Q := am_r_iconst d110_52 (by decide)
theorem r110_53 {a b : Int32} : am_Rn L xs d 110 53 ls (.int b :: .int a :: st) σ Q = if ¬ a = b then am_Rn L xs d 110 65 ls st σ Q else am_Rn L xs d 110 56 ls st σ Q := (am_r_icmp (t := 65) d110_53 (by decide)).trans (am_ite _ _ trivial (by simp only [am_cond, decide_eq_true_eq]))
theorem r110_56  : am_Rn L xs d 110 56 ls st σ Q = am_la ls 0 (fun x => am_Rn L xs d 110 57 ls (x :: st) σ Q) := am_r_aload_n d110_56
theorem r110_57 {p : Nat} : am_Rn L xs d 110 57 ls (.ref p :: st) σ Q = am_fd σ p 6 20 (fun v => am_Rn L xs d 110 60 ls (v :: st) σ Q) := am_r_getfield d110_57 rfl
theorem r110_60  : am_Rn L xs d 110 60 ls st σ Q = am_li ls 3 (fun x => am_Rn L xs d 110 61 ls (.int x :: st) σ Q) := am_r_iload_n d110_60
theorem r110_61 {p : Nat} {i : Int32} : am_Rn L xs d 110 61 ls (.int i :: .ref p :: st) σ Q = am_ai 0 σ p i (fun x => am_Rn L xs d 110 62 ls (.int x :: st) σ Q) := am_r_iaload d110_61
theorem r110_62  : am_Rn L xs d 110 62 ls st σ Q = am_Rn L xs d 110 113 ls st σ Q := am_r_goto d110_62 (by decide)
theorem r110_65  : am_Rn L xs d 110 65 ls st σ Q = am_li ls 2 (fun x => am_Rn L xs d 110 66 ls (.int x :: st) σ Q) := am_r_iload_n d110_65
theorem r110_66  : am_Rn L xs d 110 66 ls st σ Q = am_Rn L xs d 110 67 ls (.int 2 :: st) σ Q := am_r_iconst d110_66 (by decide)
theorem r110_67 {a b : Int32} : am_Rn L xs d 110 67 ls (.int b :: .int a :: st) σ Q = if ¬ a = b then am_Rn L xs d 110 79 ls st σ Q else am_Rn L xs d 110 70 ls st σ Q := (am_r_icmp (t := 79) d110_67 (by decide)).trans (am_ite _ _ trivial (by simp only [am_cond, decide_eq_true_eq]))
theorem r110_70  : am_Rn L xs d 110 70 ls st σ Q = am_la ls 0 (fun x => am_Rn L xs d 110 71 ls (x :: st) σ Q) := am_r_aload_n d110_70
theorem r110_71 {p : Nat} : am_Rn L xs d 110 71 ls (.ref p :: st) σ Q = am_fd σ p 6 21 (fun v => am_Rn L xs d 110 74 ls (v :: st) σ Q) := am_r_getfield d110_71 rfl
theorem r110_74  : am_Rn L xs d 110 74 ls st σ Q = am_li ls 3 (fun x => am_Rn L xs d 110 75 ls (.int x :: st) σ Q) := am_r_iload_n d110_74
theorem r110_75 {p : Nat} {i : Int32} : am_Rn L xs d 110 75 ls (.int i :: .ref p :: st) σ Q = am_ai 0 σ p i (fun x => am_Rn L xs d 110 76 ls (.int x :: st) σ Q) := am_r_iaload d110_75
theorem r110_76  : am_Rn L xs d 110 76 ls st σ Q = am_Rn L xs d 110 113 ls st σ Q := am_r_goto d110_76 (by decide)
theorem r110_79  : am_Rn L xs d 110 79 ls st σ Q = am_li ls 2 (fun x => am_Rn L xs d 110 80 ls (.int x :: st) σ Q) := am_r_iload_n d110_79
theorem r110_80  : am_Rn L xs d 110 80 ls st σ Q = am_Rn L xs d 110 81 ls (.int 3 :: st) σ Q := am_r_iconst d110_80 (by decide)
theorem r110_81 {a b : Int32} : am_Rn L xs d 110 81 ls (.int b :: .int a :: st) σ Q = if ¬ a = b then am_Rn L xs d 110 93 ls st σ Q else am_Rn L xs d 110 84 ls st σ Q := (am_r_icmp (t := 93) d110_81 (by decide)).trans (am_ite _ _ trivial (by simp only [am_cond, decide_eq_true_eq]))
theorem r110_84  : am_Rn L xs d 110 84 ls st σ Q = am_la ls 0 (fun x => am_Rn L xs d 110 85 ls (x :: st) σ Q) := am_r_aload_n d110_84
theorem r110_85 {p : Nat} : am_Rn L xs d 110 85 ls (.ref p :: st) σ Q = am_fd σ p 6 22 (fun v => am_Rn L xs d 110 88 ls (v :: st) σ Q) := am_r_getfield d110_85 rfl
theorem r110_88  : am_Rn L xs d 110 88 ls st σ Q = am_li ls 3 (fun x => am_Rn L xs d 110 89 ls (.int x :: st) σ Q) := am_r_iload_n d110_88
theorem r110_89 {p : Nat} {i : Int32} : am_Rn L xs d 110 89 ls (.int i :: .ref p :: st) σ Q = am_ai 0 σ p i (fun x => am_Rn L xs d 110 90 ls (.int x :: st) σ Q) := am_r_iaload d110_89
theorem r110_90  : am_Rn L xs d 110 90 ls st σ Q = am_Rn L xs d 110 113 ls st σ Q := am_r_goto d110_90 (by decide)
theorem r110_93  : am_Rn L xs d 110 93 ls st σ Q = am_li ls 2 (fun x => am_Rn L xs d 110 94 ls (.int x :: st) σ Q) := am_r_iload_n d110_93
theorem r110_94  : am_Rn L xs d 110 94 ls st σ Q = am_Rn L xs d 110 95 ls (.int 4 :: st) σ Q := am_r_iconst d110_94 (by decide)
theorem r110_95 {a b : Int32} : am_Rn L xs d 110 95 ls (.int b :: .int a :: st) σ Q = if ¬ a = b then am_Rn L xs d 110 107 ls st σ Q else am_Rn L xs d 110 98 ls st σ Q := (am_r_icmp (t := 107) d110_95 (by decide)).trans (am_ite _ _ trivial (by simp only [am_cond, decide_eq_true_eq]))
theorem r110_98  : am_Rn L xs d 110 98 ls st σ Q = am_la ls 0 (fun x => am_Rn L xs d 110 99 ls (x :: st) σ Q) := am_r_aload_n d110_98
theorem r110_99 {p : Nat} : am_Rn L xs d 110 99 ls (.ref p :: st) σ Q = am_fd σ p 6 23 (fun v => am_Rn L xs d 110 102 ls (v :: st) σ Q) := am_r_getfield d110_99 rfl
theorem r110_102  : am_Rn L xs d 110 102 ls st σ Q = am_li ls 3 (fun x => am_Rn L xs d 110 103 ls (.int x :: st) σ Q) := am_r_iload_n d110_102
theorem r110_103 {p : Nat} {i : Int32} : am_Rn L xs d 110 103 ls (.int i :: .ref p :: st) σ Q = am_ai 0 σ p i (fun x => am_Rn L xs d 110 104 ls (.int x :: st) σ Q) := am_r_iaload d110_103
theorem r110_104  : am_Rn L xs d 110 104 ls st σ Q = am_Rn L xs d 110 113 ls st σ Q := am_r_goto d110_104 (by decide)
theorem r110_107  : am_Rn L xs d 110 107 ls st σ Q = am_la ls 0 (fun x => am_Rn L xs d 110 108 ls (x :: st) σ Q) := am_r_aload_n d110_107
theorem r110_108 {p : Nat} : am_Rn L xs d 110 108 ls (.ref p :: st) σ Q = am_fd σ p 6 24 (fun v => am_Rn L xs d 110 111 ls (v :: st) σ Q) := am_r_getfield d110_108 rfl
theorem r110_111  : am_Rn L xs d 110 111 ls st σ Q = am_li ls 3 (fun x => am_Rn L xs d 110 112 ls (.int x :: st) σ Q) := am_r_iload_n d110_111
theorem r110_112 {p : Nat} {i : Int32} : am_Rn L xs d 110 112 ls (.int i :: .ref p :: st) σ Q = am_ai 0 σ p i (fun x => am_Rn L xs d 110 113 ls (.int x :: st) σ Q) := am_r_iaload d110_112
theorem r110_113 {v : Int32} : am_Rn L xs d 110 113 ls [.int v] σ Q = Q (some (.int v)) σ := am_r_ireturn d110_113 rfl
theorem d111_0 : decode (pg_code 111) 0 = .ok (.iconst 0, 1) := by decide +kernel
theorem d111_1 : decode (pg_code 111) 1 = .ok (.istore_n 2, 1) := by decide +kernel
theorem d111_2 : decode (pg_code 111) 2 = .ok (.iconst 0, 1) := by decide +kernel
theorem d111_3 : decode (pg_code 111) 3 = .ok (.istore_n 3, 1) := by decide +kernel
theorem d111_4 : decode (pg_code 111) 4 = .ok (.iload_n 3, 1) := by decide +kernel
theorem d111_5 : decode (pg_code 111) 5 = .ok (.aload_n 0, 1) := by decide +kernel
theorem d111_6 : decode (pg_code 111) 6 = .ok (.getfield 59, 3) := by decide +kernel
theorem d111_9 : decode (pg_code 111) 9 = .ok (.iconst 1, 1) := by decide +kernel
theorem d111_10 : decode (pg_code 111) 10 = .ok (.iaload, 1) := by decide +kernel
theorem d111_11 : decode (pg_code 111) 11 = .ok (.if_icmp .ge 30, 3) := by decide +kernel
theorem d111_14 : decode (pg_code 111) 14 = .ok (.iload_n 2, 1) := by decide +kernel
theorem d111_15 : decode (pg_code 111) 15 = .ok (.aload_n 0, 1) := by decide +kernel
theorem d111_16 : decode (pg_code 111) 16 = .ok (.getfield 62, 3) := by decide +kernel
theorem d111_19 : decode (pg_code 111) 19 = .ok (.bipush 40, 2) := by decide +kernel
theorem d111_21 : decode (pg_code 111) 21 = .ok (.iload_n 3, 1) := by decide +kernel
theorem d111_22 : decode (pg_code 111) 22 = .ok (.iadd, 1) := by decide +kernel
theorem d111_23 : decode (pg_code 111) 23 = .ok (.iaload, 1) := by decide +kernel
theorem d111_24 : decode (pg_code 111) 24 = .ok (.iload_n 1, 1) := by decide +kernel
theorem d111_25 : decode (pg_code 111) 25 = .ok (.if_icmp .ne 7, 3) := by decide +kernel
theorem d111_28 : decode (pg_code 111) 28 = .ok (.iconst 1, 1) := by decide +kernel
theorem d111_29 : decode (pg_code 111) 29 = .ok (.goto 4, 3) := by decide +kernel
theorem d111_32 : decode (pg_code 111) 32 = .ok (.iconst 0, 1) := by decide +kernel
theorem d111_33 : decode (pg_code 111) 33 = .ok (.iadd, 1) := by decide +kernel
theorem d111_34 : decode (pg_code 111) 34 = .ok (.istore_n 2, 1) := by decide +kernel
theorem d111_35 : decode (pg_code 111) 35 = .ok (.iinc 3 1, 3) := by decide +kernel
theorem d111_38 : decode (pg_code 111) 38 = .ok (.goto (-34), 3) := by decide +kernel
theorem d111_41 : decode (pg_code 111) 41 = .ok (.iload_n 2, 1) := by decide +kernel
theorem d111_42 : decode (pg_code 111) 42 = .ok (.ireturn, 1) := by decide +kernel
theorem e111 {b1 b2 : Value} : am_Call L xs d 111 [b1, b2] σ Q = am_Rn L xs d 111 0 [b1, b2, .retAddr 0, .retAddr 0] [] σ Q := rfl
theorem r111_0  : am_Rn L xs d 111 0 ls st σ Q = am_Rn L xs d 111 1 ls (.int 0 :: st) σ Q := am_r_iconst d111_0 (by decide)
theorem r111_1 {x : Int32} : am_Rn L xs d 111 1 ls (.int x :: st) σ Q = (2 < ls.length ∧ am_Rn L xs d 111 2 (ls.set 2 (.int x)) st σ Q) := am_r_istore_n d111_1
theorem r111_2  : am_Rn L xs d 111 2 ls st σ Q = am_Rn L xs d 111 3 ls (.int 0 :: st) σ Q := am_r_iconst d111_2 (by decide)
theorem r111_3 {x : Int32} : am_Rn L xs d 111 3 ls (.int x :: st) σ Q = (3 < ls.length ∧ am_Rn L xs d 111 4 (ls.set 3 (.int x)) st σ Q) := am_r_istore_n d111_3
theorem r111_4  : am_Rn L xs d 111 4 ls st σ Q = am_li ls 3 (fun x => am_Rn L xs d 111 5 ls (.int x :: st) σ Q) := am_r_iload_n d111_4
theorem r111_5  : am_Rn L xs d 111 5 ls st σ Q = am_la ls 0 (fun x => am_Rn L xs d 111 6 ls (x :: st) σ Q) := am_r_aload_n d111_5
theorem r111_6 {p : Nat} : am_Rn L xs d 111 6 ls (.ref p :: st) σ Q = am_fd σ p 6 18 (fun v => am_Rn L xs d 111 9 ls (v :: st) σ Q) := am_r_getfield d111_6 rfl
theorem r111_9  : am_Rn L xs d 111 9 ls st σ Q = am_Rn L xs d 111 10 ls (.int 1 :: st) σ Q := am_r_iconst d111_9 (by decide)
theorem r111_10 {p : Nat} {i : Int32} : am_Rn L xs d 111 10 ls (.int i :: .ref p :: st) σ Q = am_ai 0 σ p i (fun x => am_Rn L xs d 111 11 ls (.int x :: st) σ Q) := am_r_iaload d111_10
theorem r111_11 {a b : Int32} : am_Rn L xs d 111 11 ls (.int b :: .int a :: st) σ Q = if b ≤ a then am_Rn L xs d 111 41 ls st σ Q else am_Rn L xs d 111 14 ls st σ Q := (am_r_icmp (t := 41) d111_11 (by decide)).trans (am_ite _ _ trivial (by simp only [am_cond, decide_eq_true_eq]))
theorem r111_14  : am_Rn L xs d 111 14 ls st σ Q = am_li ls 2 (fun x => am_Rn L xs d 111 15 ls (.int x :: st) σ Q) := am_r_iload_n d111_14
theorem r111_15  : am_Rn L xs d 111 15 ls st σ Q = am_la ls 0 (fun x => am_Rn L xs d 111 16 ls (x :: st) σ Q) := am_r_aload_n d111_15
theorem r111_16 {p : Nat} : am_Rn L xs d 111 16 ls (.ref p :: st) σ Q = am_fd σ p 6 19 (fun v => am_Rn L xs d 111 19 ls (v :: st) σ Q) := am_r_getfield d111_16 rfl
theorem r111_19  : am_Rn L xs d 111 19 ls st σ Q = am_Rn L xs d 111 21 ls (.int 40 :: st) σ Q := am_r_bipush d111_19 (by decide)
theorem r111_21  : am_Rn L xs d 111 21 ls st σ Q = am_li ls 3 (fun x => am_Rn L xs d 111 22 ls (.int x :: st) σ Q) := am_r_iload_n d111_21
theorem r111_22 {a b : Int32} : am_Rn L xs d 111 22 ls (.int b :: .int a :: st) σ Q = am_Rn L xs d 111 23 ls (.int (a + b) :: st) σ Q := am_r_iadd d111_22
theorem r111_23 {p : Nat} {i : Int32} : am_Rn L xs d 111 23 ls (.int i :: .ref p :: st) σ Q = am_ai 0 σ p i (fun x => am_Rn L xs d 111 24 ls (.int x :: st) σ Q) := am_r_iaload d111_23
theorem r111_24  : am_Rn L xs d 111 24 ls st σ Q = am_li ls 1 (fun x => am_Rn L xs d 111 25 ls (.int x :: st) σ Q) := am_r_iload_n d111_24
theorem r111_25 {a b : Int32} : am_Rn L xs d 111 25 ls (.int b :: .int a :: st) σ Q = if ¬ a = b then am_Rn L xs d 111 32 ls st σ Q else am_Rn L xs d 111 28 ls st σ Q := (am_r_icmp (t := 32) d111_25 (by decide)).trans (am_ite _ _ trivial (by simp only [am_cond, decide_eq_true_eq]))
theorem r111_28  : am_Rn L xs d 111 28 ls st σ Q = am_Rn L xs d 111 29 ls (.int 1 :: st) σ Q := am_r_iconst d111_28 (by decide)
theorem r111_29  : am_Rn L xs d 111 29 ls st σ Q = am_Rn L xs d 111 33 ls st σ Q := am_r_goto d111_29 (by decide)
theorem r111_32  : am_Rn L xs d 111 32 ls st σ Q = am_Rn L xs d 111 33 ls (.int 0 :: st) σ Q := am_r_iconst d111_32 (by decide)
theorem r111_33 {a b : Int32} : am_Rn L xs d 111 33 ls (.int b :: .int a :: st) σ Q = am_Rn L xs d 111 34 ls (.int (a + b) :: st) σ Q := am_r_iadd d111_33
theorem r111_34 {x : Int32} : am_Rn L xs d 111 34 ls (.int x :: st) σ Q = (2 < ls.length ∧ am_Rn L xs d 111 35 (ls.set 2 (.int x)) st σ Q) := am_r_istore_n d111_34
theorem r111_35  : am_Rn L xs d 111 35 ls st σ Q = am_li ls 3 (fun x => am_Rn L xs d 111 38 (ls.set 3 (.int (x + 1))) st σ Q) := am_r_iinc d111_35 (by decide)
theorem r111_38  : am_Rn L xs d 111 38 ls st σ Q = am_Rn L xs d 111 4 ls st σ Q := am_r_goto d111_38 (by decide)
theorem r111_41  : am_Rn L xs d 111 41 ls st σ Q = am_li ls 2 (fun x => am_Rn L xs d 111 42 ls (.int x :: st) σ Q) := am_r_iload_n d111_41
theorem r111_42 {v : Int32} : am_Rn L xs d 111 42 ls [.int v] σ Q = Q (some (.int v)) σ := am_r_ireturn d111_42 rfl
theorem d112_0 : decode (pg_code 112) 0 = .ok (.aload_n 0, 1) := by decide +kernel
theorem d112_1 : decode (pg_code 112) 1 = .ok (.getfield 190, 3) := by decide +kernel
theorem d112_4 : decode (pg_code 112) 4 = .ok (.ifCond .eq 17, 3) := by decide +kernel
theorem d112_7 : decode (pg_code 112) 7 = .ok (.iload_n 1, 1) := by decide +kernel
theorem d112_8 : decode (pg_code 112) 8 = .ok (.ifCond .lt 13, 3) := by decide +kernel
theorem d112_11 : decode (pg_code 112) 11 = .ok (.iload_n 1, 1) := by decide +kernel
theorem d112_12 : decode (pg_code 112) 12 = .ok (.aload_n 0, 1) := by decide +kernel
theorem d112_13 : decode (pg_code 112) 13 = .ok (.getfield 59, 3) := by decide +kernel
theorem d112_16 : decode (pg_code 112) 16 = .ok (.iconst 1, 1) := by decide +kernel
theorem d112_17 : decode (pg_code 112) 17 = .ok (.iaload, 1) := by decide +kernel
theorem d112_18 : decode (pg_code 112) 18 = .ok (.if_icmp .le 5, 3) := by decide +kernel
theorem d112_21 : decode (pg_code 112) 21 = .ok (.iconst (-1), 1) := by decide +kernel
theorem d112_22 : decode (pg_code 112) 22 = .ok (.ireturn, 1) := by decide +kernel
theorem d112_23 : decode (pg_code 112) 23 = .ok (.aload_n 0, 1) := by decide +kernel
theorem d112_24 : decode (pg_code 112) 24 = .ok (.iconst 3, 1) := by decide +kernel
theorem d112_25 : decode (pg_code 112) 25 = .ok (.invokevirtual 211, 3) := by decide +kernel
theorem d112_28 : decode (pg_code 112) 28 = .ok (.bipush 40, 2) := by decide +kernel
theorem d112_30 : decode (pg_code 112) 30 = .ok (.istore_n 2, 1) := by decide +kernel
theorem d112_31 : decode (pg_code 112) 31 = .ok (.iload_n 2, 1) := by decide +kernel
theorem d112_32 : decode (pg_code 112) 32 = .ok (.bipush 40, 2) := by decide +kernel
theorem d112_34 : decode (pg_code 112) 34 = .ok (.iload_n 1, 1) := by decide +kernel
theorem d112_35 : decode (pg_code 112) 35 = .ok (.iadd, 1) := by decide +kernel
theorem d112_36 : decode (pg_code 112) 36 = .ok (.if_icmp .ge 32, 3) := by decide +kernel
theorem d112_39 : decode (pg_code 112) 39 = .ok (.aload_n 0, 1) := by decide +kernel
theorem d112_40 : decode (pg_code 112) 40 = .ok (.iload_n 2, 1) := by decide +kernel
theorem d112_41 : decode (pg_code 112) 41 = .ok (.aload_n 0, 1) := by decide +kernel
theorem d112_42 : decode (pg_code 112) 42 = .ok (.getfield 65, 3) := by decide +kernel
theorem d112_45 : decode (pg_code 112) 45 = .ok (.iload_n 2, 1) := by decide +kernel
theorem d112_46 : decode (pg_code 112) 46 = .ok (.iaload, 1) := by decide +kernel
theorem d112_47 : decode (pg_code 112) 47 = .ok (.aload_n 0, 1) := by decide +kernel
theorem d112_48 : decode (pg_code 112) 48 = .ok (.getfield 68, 3) := by decide +kernel
theorem d112_51 : decode (pg_code 112) 51 = .ok (.iload_n 2, 1) := by decide +kernel
theorem d112_52 : decode (pg_code 112) 52 = .ok (.iaload, 1) := by decide +kernel
theorem d112_53 : decode (pg_code 112) 53 = .ok (.aload_n 0, 1) := by decide +kernel
theorem d112_54 : decode (pg_code 112) 54 = .ok (.getfield 71, 3) := by decide +kernel
theorem d112_57 : decode (pg_code 112) 57 = .ok (.iload_n 2, 1) := by decide +kernel
theorem d112_58 : decode (pg_code 112) 58 = .ok (.iaload, 1) := by decide +kernel
theorem d112_59 : decode (pg_code 112) 59 = .ok (.invokevirtual 214, 3) := by decide +kernel
theorem d112_62 : decode (pg_code 112) 62 = .ok (.iinc 2 1, 3) := by decide +kernel
theorem d112_65 : decode (pg_code 112) 65 = .ok (.goto (-34), 3) := by decide +kernel
theorem d112_68 : decode (pg_code 112) 68 = .ok (.aload_n 0, 1) := by decide +kernel
theorem d112_69 : decode (pg_code 112) 69 = .ok (.iconst 1, 1) := by decide +kernel
theorem d112_70 : decode (pg_code 112) 70 = .ok (.putfield 218, 3) := by decide +kernel
theorem d112_73 : decode (pg_code 112) 73 = .ok (.aload_n 0, 1) := by decide +kernel
theorem d112_74 : decode (pg_code 112) 74 = .ok (.invokevirtual 221, 3) := by decide +kernel
theorem d112_77 : decode (pg_code 112) 77 = .ok (.ireturn, 1) := by decide +kernel
theorem e112 {b1 b2 : Value} : am_Call L xs d 112 [b1, b2] σ Q = am_Rn L xs d 112 0 [b1, b2, .retAddr 0] [] σ Q := rfl
theorem r112_0  : am_Rn L xs d 112 0 ls st σ Q = am_la ls 0 (fun x => am_Rn L xs d 112 1 ls (x :: st) σ Q) := am_r_aload_n d112_0
theorem r112_1 {p : Nat} : am_Rn L xs d 112 1 ls (.ref p :: st) σ Q = am_fd σ p 6 26 (fun v => am_Rn L xs d 112 4 ls (v :: st) σ Q) := am_r_getfield d112_1 rfl
theorem r112_4 {a : Int32} : am_Rn L xs d 112 4 ls (.int a :: st) σ Q = if a = 0 then am_Rn L xs d 112 21 ls st σ Q else am_Rn L xs d 112 7 ls st σ Q := (am_r_if (t := 21) d112_4 (by decide)).trans (am_ite _ _ trivial (by simp only [am_cond, decide_eq_true_eq]))
theorem r112_7  : am_Rn L xs d 112 7 ls st σ Q = am_li ls 1 (fun x => am_Rn L xs d 112 8 ls (.int x :: st) σ Q) := am_r_iload_n d112_7
theorem r112_8 {a : Int32} : am_Rn L xs d 112 8 ls (.int a :: st) σ Q = if a < 0 then am_Rn L xs d 112 21 ls st σ Q else am_Rn L xs d 112 11 ls st σ Q := (am_r_if (t := 21) d112_8 (by decide)).trans (am_ite _ _ trivial (by simp only [am_cond, decide_eq_true_eq]))
theorem r112_11  : am_Rn L xs d 112 11 ls st σ Q = am_li ls 1 (fun x => am_Rn L xs d 112 12 ls (.int x :: st) σ Q) := am_r_iload_n d112_11
theorem r112_12  : am_Rn L xs d 112 12 ls st σ Q = am_la ls 0 (fun x => am_Rn L xs d 112 13 ls (x :: st) σ Q) := am_r_aload_n d112_12
theorem r112_13 {p : Nat} : am_Rn L xs d 112 13 ls (.ref p :: st) σ Q = am_fd σ p 6 18 (fun v => am_Rn L xs d 112 16 ls (v :: st) σ Q) := am_r_getfield d112_13 rfl
theorem r112_16  : am_Rn L xs d 112 16 ls st σ Q = am_Rn L xs d 112 17 ls (.int 1 :: st) σ Q := am_r_iconst d112_16 (by decide)
theorem r112_17 {p : Nat} {i : Int32} : am_Rn L xs d 112 17 ls (.int i :: .ref p :: st) σ Q = am_ai 0 σ p i (fun x => am_Rn L xs d 112 18 ls (.int x :: st) σ Q) := am_r_iaload d112_17
theorem r112_18 {a b : Int32} : am_Rn L xs d 112 18 ls (.int b :: .int a :: st) σ Q = if a ≤ b then am_Rn L xs d 112 23 ls st σ Q else am_Rn L xs d 112 21 ls st σ Q := (am_r_icmp (t := 23) d112_18 (by decide)).trans (am_ite _ _ trivial (by simp only [am_cond, decide_eq_true_eq]))
theorem r112_21  : am_Rn L xs d 112 21 ls st σ Q = am_Rn L xs d 112 22 ls (.int (-1) :: st) σ Q := am_r_iconst d112_21 (by decide)
theorem r112_22 {v : Int32} : am_Rn L xs d 112 22 ls [.int v] σ Q = Q (some (.int v)) σ := am_r_ireturn d112_22 rfl
theorem r112_23  : am_Rn L xs d 112 23 ls st σ Q = am_la ls 0 (fun x => am_Rn L xs d 112 24 ls (x :: st) σ Q) := am_r_aload_n d112_23
theorem r112_24  : am_Rn L xs d 112 24 ls st σ Q = am_Rn L xs d 112 25 ls (.int 3 :: st) σ Q := am_r_iconst d112_24 (by decide)
theorem r112_25 {a1 : Value} {p : Nat} : am_Rn L xs (d + 1) 112 25 ls (a1 :: .ref p :: st) σ Q = ((am_oc σ p = 6 ∧ st.length ≤ 4 ∧ am_ok a1 = true) ∧ am_Call L xs d 113 [.ref p, a1] σ (fun r σ1 => am_Rn L xs (d + 1) 112 28 ls (r.toList ++ st) σ1 Q)) := am_R_virtual1 d112_25 rfl ⟨by decide, rfl⟩ rfl rfl (by decide)
theorem r112_28  : am_Rn L xs d 112 28 ls st σ Q = am_Rn L xs d 112 30 ls (.int 40 :: st) σ Q := am_r_bipush d112_28 (by decide)
theorem r112_30 {x : Int32} : am_Rn L xs d 112 30 ls (.int x :: st) σ Q = (2 < ls.length ∧ am_Rn L xs d 112 31 (ls.set 2 (.int x)) st σ Q) := am_r_istore_n d112_30
theorem r112_31  : am_Rn L xs d 112 31 ls st σ Q = am_li ls 2 (fun x => am_Rn L xs d 112 32 ls (.int x :: st) σ Q) := am_r_iload_n d112_31
theorem r112_32  : am_Rn L xs d 112 32 ls st σ Q = am_Rn L xs d 112 34 ls (.int 40 :: st) σ Q := am_r_bipush d112_32 (by decide)
theorem r112_34  : am_Rn L xs d 112 34 ls st σ Q = am_li ls 1 (fun x => am_Rn L xs d 112 35 ls (.int x :: st) σ Q) := am_r_iload_n d112_34
theorem r112_35 {a b : Int32} : am_Rn L xs d 112 35 ls (.int b :: .int a :: st) σ Q = am_Rn L xs d 112 36 ls (.int (a + b) :: st) σ Q := am_r_iadd d112_35
theorem r112_36 {a b : Int32} : am_Rn L xs d 112 36 ls (.int b :: .int a :: st) σ Q = if b ≤ a then am_Rn L xs d 112 68 ls st σ Q else am_Rn L xs d 112 39 ls st σ Q := (am_r_icmp (t := 68) d112_36 (by decide)).trans (am_ite _ _ trivial (by simp only [am_cond, decide_eq_true_eq]))
theorem r112_39  : am_Rn L xs d 112 39 ls st σ Q = am_la ls 0 (fun x => am_Rn L xs d 112 40 ls (x :: st) σ Q) := am_r_aload_n d112_39
theorem r112_40  : am_Rn L xs d 112 40 ls st σ Q = am_li ls 2 (fun x => am_Rn L xs d 112 41 ls (.int x :: st) σ Q) := am_r_iload_n d112_40
theorem r112_41  : am_Rn L xs d 112 41 ls st σ Q = am_la ls 0 (fun x => am_Rn L xs d 112 42 ls (x :: st) σ Q) := am_r_aload_n d112_41
theorem r112_42 {p : Nat} : am_Rn L xs d 112 42 ls (.ref p :: st) σ Q = am_fd σ p 6 20 (fun v => am_Rn L xs d 112 45 ls (v :: st) σ Q) := am_r_getfield d112_42 rfl
theorem r112_45  : am_Rn L xs d 112 45 ls st σ Q = am_li ls 2 (fun x => am_Rn L xs d 112 46 ls (.int x :: st) σ Q) := am_r_iload_n d112_45
theorem r112_46 {p : Nat} {i : Int32} : am_Rn L xs d 112 46 ls (.int i :: .ref p :: st) σ Q = am_ai 0 σ p i (fun x => am_Rn L xs d 112 47 ls (.int x :: st) σ Q) := am_r_iaload d112_46
theorem r112_47  : am_Rn L xs d 112 47 ls st σ Q = am_la ls 0 (fun x => am_Rn L xs d 112 48 ls (x :: st) σ Q) := am_r_aload_n d112_47
theorem r112_48 {p : Nat} : am_Rn L xs d 112 48 ls (.ref p :: st) σ Q = am_fd σ p 6 21 (fun v => am_Rn L xs d 112 51 ls (v :: st) σ Q) := am_r_getfield d112_48 rfl
theorem r112_51  : am_Rn L xs d 112 51 ls st σ Q = am_li ls 2 (fun x => am_Rn L xs d 112 52 ls (.int x :: st) σ Q) := am_r_iload_n d112_51
theorem r112_52 {p : Nat} {i : Int32} : am_Rn L xs d 112 52 ls (.int i :: .ref p :: st) σ Q = am_ai 0 σ p i (fun x => am_Rn L xs d 112 53 ls (.int x :: st) σ Q) := am_r_iaload d112_52
theorem r112_53  : am_Rn L xs d 112 53 ls st σ Q = am_la ls 0 (fun x => am_Rn L xs d 112 54 ls (x :: st) σ Q) := am_r_aload_n d112_53
theorem r112_54 {p : Nat} : am_Rn L xs d 112 54 ls (.ref p :: st) σ Q = am_fd σ p 6 22 (fun v => am_Rn L xs d 112 57 ls (v :: st) σ Q) := am_r_getfield d112_54 rfl
theorem r112_57  : am_Rn L xs d 112 57 ls st σ Q = am_li ls 2 (fun x => am_Rn L xs d 112 58 ls (.int x :: st) σ Q) := am_r_iload_n d112_57
theorem r112_58 {p : Nat} {i : Int32} : am_Rn L xs d 112 58 ls (.int i :: .ref p :: st) σ Q = am_ai 0 σ p i (fun x => am_Rn L xs d 112 59 ls (.int x :: st) σ Q) := am_r_iaload d112_58
theorem r112_59 {a1 a2 a3 a4 : Value} {p : Nat} : am_Rn L xs (d + 1) 112 59 ls (a4 :: a3 :: a2 :: a1 :: .ref p :: st) σ Q = ((am_oc σ p = 6 ∧ st.length ≤ 4 ∧ am_ok a1 = true ∧ am_ok a2 = true ∧ am_ok a3 = true ∧ am_ok a4 = true) ∧ am_Call L xs d 114 [.ref p, a1, a2, a3, a4] σ (fun r σ1 => am_Rn L xs (d + 1) 112 62 ls (r.toList ++ st) σ1 Q)) := am_R_virtual4 d112_59 rfl ⟨by decide, rfl⟩ rfl rfl (by decide)
theorem r112_62  : am_Rn L xs d 112 62 ls st σ Q = am_li ls 2 (fun x => am_Rn L xs d 112 65 (ls.set 2 (.int (x + 1))) st σ Q) := am_r_iinc d112_62 (by decide)
theorem r112_65  : am_Rn L xs d 112 65 ls st σ Q = am_Rn L xs d 112 31 ls st σ Q := am_r_goto d112_65 (by decide)
theorem r112_68  : am_Rn L xs d 112 68 ls st σ Q = am_la ls 0 (fun x => am_Rn L xs d 112 69 ls (x :: st) σ Q) := am_r_aload_n d112_68
theorem r112_69  : am_Rn L xs d 112 69 ls st σ Q = am_Rn L xs d 112 70 ls (.int 1 :: st) σ Q := am_r_iconst d112_69 (by decide)
theorem r112_70 {p : Nat} {v : Value} : am_Rn L xs d 112 70 ls (v :: .ref p :: st) σ Q = am_wf 112 6 σ p 6 28 v (fun σ1 => am_Rn L xs d 112 73 ls st σ1 Q) := am_r_putfield d112_70 rfl
theorem r112_73  : am_Rn L xs d 112 73 ls st σ Q = am_la ls 0 (fun x => am_Rn L xs d 112 74 ls (x :: st) σ Q) := am_r_aload_n d112_73
theorem r112_74 {p : Nat} : am_Rn L xs (d + 1) 112 74 ls (.ref p :: st) σ Q = ((am_oc σ p = 6 ∧ st.length ≤ 4) ∧ am_Call L xs d 118 [.ref p] σ (fun r σ1 => am_Rn L xs (d + 1) 112 77 ls (r.toList ++ st) σ1 Q)) := am_R_virtual0 d112_74 rfl ⟨by decide, rfl⟩ rfl rfl (by decide)
theorem r112_77 {v : Int32} : am_Rn L xs d 112 77 ls [.int v] σ Q = Q (some (.int v)) σ := am_r_ireturn d112_77 rfl
theorem d113_0 : decode (pg_code 113) 0 = .ok (.iconst 0, 1) := by decide +kernel
theorem d113_1 : decode (pg_code 113) 1 = .ok (.istore_n 2, 1) := by decide +kernel
theorem d113_2 : decode (pg_code 113) 2 = .ok (.iload_n 2, 1) := by decide +kernel
theorem d113_3 : decode (pg_code 113) 3 = .ok (.bipush 36, 2) := by decide +kernel
theorem d113_5 : decode (pg_code 113) 5 = .ok (.if_icmp .ge 16, 3) := by decide +kernel
theorem d113_8 : decode (pg_code 113) 8 = .ok (.aload_n 0, 1) := by decide +kernel
theorem d113_9 : decode (pg_code 113) 9 = .ok (.getfield 86, 3) := by decide +kernel
theorem d113_12 : decode (pg_code 113) 12 = .ok (.iload_n 2, 1) := by decide +kernel
theorem d113_13 : decode (pg_code 113) 13 = .ok (.iconst 0, 1) := by decide +kernel
theorem d113_14 : decode (pg_code 113) 14 = .ok (.bastore, 1) := by decide +kernel
theorem d113_15 : decode (pg_code 113) 15 = .ok (.iinc 2 1, 3) := by decide +kernel
theorem d113_18 : decode (pg_code 113) 18 = .ok (.goto (-16), 3) := by decide +kernel
theorem d113_21 : decode (pg_code 113) 21 = .ok (.aload_n 0, 1) := by decide +kernel
theorem d113_22 : decode (pg_code 113) 22 = .ok (.aload_n 0, 1) := by decide +kernel
theorem d113_23 : decode (pg_code 113) 23 = .ok (.getfield 7, 3) := by decide +kernel
theorem d113_26 : decode (pg_code 113) 26 = .ok (.iload_n 1, 1) := by decide +kernel
theorem d113_27 : decode (pg_code 113) 27 = .ok (.iaload, 1) := by decide +kernel
theorem d113_28 : decode (pg_code 113) 28 = .ok (.putfield 194, 3) := by decide +kernel
theorem d113_31 : decode (pg_code 113) 31 = .ok (.aload_n 0, 1) := by decide +kernel
theorem d113_32 : decode (pg_code 113) 32 = .ok (.aload_n 0, 1) := by decide +kernel
theorem d113_33 : decode (pg_code 113) 33 = .ok (.getfield 7, 3) := by decide +kernel
theorem d113_36 : decode (pg_code 113) 36 = .ok (.iload_n 1, 1) := by decide +kernel
theorem d113_37 : decode (pg_code 113) 37 = .ok (.iaload, 1) := by decide +kernel
theorem d113_38 : decode (pg_code 113) 38 = .ok (.putfield 197, 3) := by decide +kernel
theorem d113_41 : decode (pg_code 113) 41 = .ok (.iconst 0, 1) := by decide +kernel
theorem d113_42 : decode (pg_code 113) 42 = .ok (.istore_n 2, 1) := by decide +kernel
theorem d113_43 : decode (pg_code 113) 43 = .ok (.iload_n 2, 1) := by decide +kernel
theorem d113_44 : decode (pg_code 113) 44 = .ok (.aload_n 0, 1) := by decide +kernel
theorem d113_45 : decode (pg_code 113) 45 = .ok (.getfield 7, 3) := by decide +kernel
theorem d113_48 : decode (pg_code 113) 48 = .ok (.iload_n 1, 1) := by decide +kernel
theorem d113_49 : decode (pg_code 113) 49 = .ok (.iaload, 1) := by decide +kernel
theorem d113_50 : decode (pg_code 113) 50 = .ok (.if_icmp .ge 74, 3) := by decide +kernel
theorem d113_53 : decode (pg_code 113) 53 = .ok (.aload_n 0, 1) := by decide +kernel
theorem d113_54 : decode (pg_code 113) 54 = .ok (.getfield 86, 3) := by decide +kernel
theorem d113_57 : decode (pg_code 113) 57 = .ok (.iload_n 2, 1) := by decide +kernel
theorem d113_58 : decode (pg_code 113) 58 = .ok (.iconst 1, 1) := by decide +kernel
theorem d113_59 : decode (pg_code 113) 59 = .ok (.bastore, 1) := by decide +kernel
theorem d113_60 : decode (pg_code 113) 60 = .ok (.aload_n 0, 1) := by decide +kernel
theorem d113_61 : decode (pg_code 113) 61 = .ok (.getfield 89, 3) := by decide +kernel
theorem d113_64 : decode (pg_code 113) 64 = .ok (.iload_n 2, 1) := by decide +kernel
theorem d113_65 : decode (pg_code 113) 65 = .ok (.aload_n 0, 1) := by decide +kernel
theorem d113_66 : decode (pg_code 113) 66 = .ok (.getfield 13, 3) := by decide +kernel
theorem d113_69 : decode (pg_code 113) 69 = .ok (.bipush 12, 2) := by decide +kernel
theorem d113_71 : decode (pg_code 113) 71 = .ok (.iload_n 1, 1) := by decide +kernel
theorem d113_72 : decode (pg_code 113) 72 = .ok (.imul, 1) := by decide +kernel
theorem d113_73 : decode (pg_code 113) 73 = .ok (.iload_n 2, 1) := by decide +kernel
theorem d113_74 : decode (pg_code 113) 74 = .ok (.iadd, 1) := by decide +kernel
theorem d113_75 : decode (pg_code 113) 75 = .ok (.iaload, 1) := by decide +kernel
theorem d113_76 : decode (pg_code 113) 76 = .ok (.iastore, 1) := by decide +kernel
theorem d113_77 : decode (pg_code 113) 77 = .ok (.aload_n 0, 1) := by decide +kernel
theorem d113_78 : decode (pg_code 113) 78 = .ok (.getfield 92, 3) := by decide +kernel
theorem d113_81 : decode (pg_code 113) 81 = .ok (.iload_n 2, 1) := by decide +kernel
theorem d113_82 : decode (pg_code 113) 82 = .ok (.aload_n 0, 1) := by decide +kernel
theorem d113_83 : decode (pg_code 113) 83 = .ok (.getfield 16, 3) := by decide +kernel
theorem d113_86 : decode (pg_code 113) 86 = .ok (.bipush 12, 2) := by decide +kernel
theorem d113_88 : decode (pg_code 113) 88 = .ok (.iload_n 1, 1) := by decide +kernel
theorem d113_89 : decode (pg_code 113) 89 = .ok (.imul, 1) := by decide +kernel
theorem d113_90 : decode (pg_code 113) 90 = .ok (.iload_n 2, 1) := by decide +kernel
theorem d113_91 : decode (pg_code 113) 91 = .ok (.iadd, 1) := by decide +kernel
theorem d113_92 : decode (pg_code 113) 92 = .ok (.iaload, 1) := by decide +kernel
theorem d113_93 : decode (pg_code 113) 93 = .ok (.iastore, 1) := by decide +kernel
theorem d113_94 : decode (pg_code 113) 94 = .ok (.aload_n 0, 1) := by decide +kernel
theorem d113_95 : decode (pg_code 113) 95 = .ok (.getfield 95, 3) := by decide +kernel
theorem d113_98 : decode (pg_code 113) 98 = .ok (.iload_n 2, 1) := by decide +kernel
theorem d113_99 : decode (pg_code 113) 99 = .ok (.aload_n 0, 1) := by decide +kernel
theorem d113_100 : decode (pg_code 113) 100 = .ok (.getfield 19, 3) := by decide +kernel
theorem d113_103 : decode (pg_code 113) 103 = .ok (.bipush 12, 2) := by decide +kernel
theorem d113_105 : decode (pg_code 113) 105 = .ok (.iload_n 1, 1) := by decide +kernel
theorem d113_106 : decode (pg_code 113) 106 = .ok (.imul, 1) := by decide +kernel
theorem d113_107 : decode (pg_code 113) 107 = .ok (.iload_n 2, 1) := by decide +kernel
theorem d113_108 : decode (pg_code 113) 108 = .ok (.iadd, 1) := by decide +kernel
theorem d113_109 : decode (pg_code 113) 109 = .ok (.iaload, 1) := by decide +kernel
theorem d113_110 : decode (pg_code 113) 110 = .ok (.iastore, 1) := by decide +kernel
theorem d113_111 : decode (pg_code 113) 111 = .ok (.aload_n 0, 1) := by decide +kernel
theorem d113_112 : decode (pg_code 113) 112 = .ok (.getfield 98, 3) := by decide +kernel
theorem d113_115 : decode (pg_code 113) 115 = .ok (.iload_n 2, 1) := by decide +kernel
theorem d113_116 : decode (pg_code 113) 116 = .ok (.iload_n 2, 1) := by decide +kernel
theorem d113_117 : decode (pg_code 113) 117 = .ok (.iastore, 1) := by decide +kernel
theorem d113_118 : decode (pg_code 113) 118 = .ok (.iinc 2 1, 3) := by decide +kernel
theorem d113_121 : decode (pg_code 113) 121 = .ok (.goto (-78), 3) := by decide +kernel
theorem d113_124 : decode (pg_code 113) 124 = .ok (.return_, 1) := by decide +kernel
theorem e113 {b1 b2 : Value} : am_Call L xs d 113 [b1, b2] σ Q = am_Rn L xs d 113 0 [b1, b2, .retAddr 0] [] σ Q := rfl
theorem r113_0  : am_Rn L xs d 113 0 ls st σ Q = am_Rn L xs d 113 1 ls (.int 0 :: st) σ Q := am_r_iconst d113_0 (by decide)
theorem r113_1 {x : Int32} : am_Rn L xs d 113 1 ls (.int x :: st) σ Q = (2 < ls.length ∧ am_Rn L xs d 113 2 (ls.set 2 (.int x)) st σ Q) := am_r_istore_n d113_1
theorem r113_2  : am_Rn L xs d 113 2 ls st σ Q = am_li ls 2 (fun x => am_Rn L xs d 113 3 ls (.int x :: st) σ Q) := am_r_iload_n d113_2
theorem r113_3  : am_Rn L xs d 113 3 ls st σ Q = am_Rn L xs d 113 5 ls (.int 36 :: st) σ Q := am_r_bipush d113_3 (by decide)
theorem r113_5 {a b : Int32} : am_Rn L xs d 113 5 ls (.int b :: .int a :: st) σ Q = if b ≤ a then am_Rn L xs d 113 21 ls st σ Q else am_Rn L xs d 113 8 ls st σ Q := (am_r_icmp (t := 21) d113_5 (by decide)).trans (am_ite _ _ trivial (by simp only [am_cond, decide_eq_true_eq]))
theorem r113_8  : am_Rn L xs d 113 8 ls st σ Q = am_la ls 0 (fun x => am_Rn L xs d 113 9 ls (x :: st) σ Q) := am_r_aload_n d113_8
theorem r113_9 {p : Nat} : am_Rn L xs d 113 9 ls (.ref p :: st) σ Q = am_fd σ p 6 30 (fun v => am_Rn L xs d 113 12 ls (v :: st) σ Q) := am_r_getfield d113_9 rfl
theorem r113_12  : am_Rn L xs d 113 12 ls st σ Q = am_li ls 2 (fun x => am_Rn L xs d 113 13 ls (.int x :: st) σ Q) := am_r_iload_n d113_12
theorem r113_13  : am_Rn L xs d 113 13 ls st σ Q = am_Rn L xs d 113 14 ls (.int 0 :: st) σ Q := am_r_iconst d113_13 (by decide)
theorem r113_14 {p : Nat} {i x : Int32} : am_Rn L xs d 113 14 ls (.int x :: .int i :: .ref p :: st) σ Q = am_wi 1 σ p i (vp_nar .boolean x) (fun σ1 => am_Rn L xs d 113 15 ls st σ1 Q) := am_r_bastore d113_14
theorem r113_15  : am_Rn L xs d 113 15 ls st σ Q = am_li ls 2 (fun x => am_Rn L xs d 113 18 (ls.set 2 (.int (x + 1))) st σ Q) := am_r_iinc d113_15 (by decide)
theorem r113_18  : am_Rn L xs d 113 18 ls st σ Q = am_Rn L xs d 113 2 ls st σ Q := am_r_goto d113_18 (by decide)
theorem r113_21  : am_Rn L xs d 113 21 ls st σ Q = am_la ls 0 (fun x => am_Rn L xs d 113 22 ls (x :: st) σ Q) := am_r_aload_n d113_21
theorem r113_22  : am_Rn L xs d 113 22 ls st σ Q = am_la ls 0 (fun x => am_Rn L xs d 113 23 ls (x :: st) σ Q) := am_r_aload_n d113_22
theorem r113_23 {p : Nat} : am_Rn L xs d 113 23 ls (.ref p :: st) σ Q = am_fd σ p 6 0 (fun v => am_Rn L xs d 113 26 ls (v :: st) σ Q) := am_r_getfield d113_23 rfl
theorem r113_26  : am_Rn L xs d 113 26 ls st σ Q = am_li ls 1 (fun x => am_Rn L xs d 113 27 ls (.int x :: st) σ Q) := am_r_iload_n d113_26
theorem r113_27 {p : Nat} {i : Int32} : am_Rn L xs d 113 27 ls (.int i :: .ref p :: st) σ Q = am_ai 0 σ p i (fun x => am_Rn L xs d 113 28 ls (.int x :: st) σ Q) := am_r_iaload d113_27
theorem r113_28 {p : Nat} {v : Value} : am_Rn L xs d 113 28 ls (v :: .ref p :: st) σ Q = am_wf 113 6 σ p 6 29 v (fun σ1 => am_Rn L xs d 113 31 ls st σ1 Q) := am_r_putfield d113_28 rfl
theorem r113_31  : am_Rn L xs d 113 31 ls st σ Q = am_la ls 0 (fun x => am_Rn L xs d 113 32 ls (x :: st) σ Q) := am_r_aload_n d113_31
theorem r113_32  : am_Rn L xs d 113 32 ls st σ Q = am_la ls 0 (fun x => am_Rn L xs d 113 33 ls (x :: st) σ Q) := am_r_aload_n d113_32
theorem r113_33 {p : Nat} : am_Rn L xs d 113 33 ls (.ref p :: st) σ Q = am_fd σ p 6 0 (fun v => am_Rn L xs d 113 36 ls (v :: st) σ Q) := am_r_getfield d113_33 rfl
theorem r113_36  : am_Rn L xs d 113 36 ls st σ Q = am_li ls 1 (fun x => am_Rn L xs d 113 37 ls (.int x :: st) σ Q) := am_r_iload_n d113_36
theorem r113_37 {p : Nat} {i : Int32} : am_Rn L xs d 113 37 ls (.int i :: .ref p :: st) σ Q = am_ai 0 σ p i (fun x => am_Rn L xs d 113 38 ls (.int x :: st) σ Q) := am_r_iaload d113_37
theorem r113_38 {p : Nat} {v : Value} : am_Rn L xs d 113 38 ls (v :: .ref p :: st) σ Q = am_wf 113 6 σ p 6 35 v (fun σ1 => am_Rn L xs d 113 41 ls st σ1 Q) := am_r_putfield d113_38 rfl
theorem r113_41  : am_Rn L xs d 113 41 ls st σ Q = am_Rn L xs d 113 42 ls (.int 0 :: st) σ Q := am_r_iconst d113_41 (by decide)
theorem r113_42 {x : Int32} : am_Rn L xs d 113 42 ls (.int x :: st) σ Q = (2 < ls.length ∧ am_Rn L xs d 113 43 (ls.set 2 (.int x)) st σ Q) := am_r_istore_n d113_42
theorem r113_43  : am_Rn L xs d 113 43 ls st σ Q = am_li ls 2 (fun x => am_Rn L xs d 113 44 ls (.int x :: st) σ Q) := am_r_iload_n d113_43
theorem r113_44  : am_Rn L xs d 113 44 ls st σ Q = am_la ls 0 (fun x => am_Rn L xs d 113 45 ls (x :: st) σ Q) := am_r_aload_n d113_44
theorem r113_45 {p : Nat} : am_Rn L xs d 113 45 ls (.ref p :: st) σ Q = am_fd σ p 6 0 (fun v => am_Rn L xs d 113 48 ls (v :: st) σ Q) := am_r_getfield d113_45 rfl
theorem r113_48  : am_Rn L xs d 113 48 ls st σ Q = am_li ls 1 (fun x => am_Rn L xs d 113 49 ls (.int x :: st) σ Q) := am_r_iload_n d113_48
theorem r113_49 {p : Nat} {i : Int32} : am_Rn L xs d 113 49 ls (.int i :: .ref p :: st) σ Q = am_ai 0 σ p i (fun x => am_Rn L xs d 113 50 ls (.int x :: st) σ Q) := am_r_iaload d113_49
theorem r113_50 {a b : Int32} : am_Rn L xs d 113 50 ls (.int b :: .int a :: st) σ Q = if b ≤ a then am_Rn L xs d 113 124 ls st σ Q else am_Rn L xs d 113 53 ls st σ Q := (am_r_icmp (t := 124) d113_50 (by decide)).trans (am_ite _ _ trivial (by simp only [am_cond, decide_eq_true_eq]))
theorem r113_53  : am_Rn L xs d 113 53 ls st σ Q = am_la ls 0 (fun x => am_Rn L xs d 113 54 ls (x :: st) σ Q) := am_r_aload_n d113_53
theorem r113_54 {p : Nat} : am_Rn L xs d 113 54 ls (.ref p :: st) σ Q = am_fd σ p 6 30 (fun v => am_Rn L xs d 113 57 ls (v :: st) σ Q) := am_r_getfield d113_54 rfl
theorem r113_57  : am_Rn L xs d 113 57 ls st σ Q = am_li ls 2 (fun x => am_Rn L xs d 113 58 ls (.int x :: st) σ Q) := am_r_iload_n d113_57
theorem r113_58  : am_Rn L xs d 113 58 ls st σ Q = am_Rn L xs d 113 59 ls (.int 1 :: st) σ Q := am_r_iconst d113_58 (by decide)
theorem r113_59 {p : Nat} {i x : Int32} : am_Rn L xs d 113 59 ls (.int x :: .int i :: .ref p :: st) σ Q = am_wi 1 σ p i (vp_nar .boolean x) (fun σ1 => am_Rn L xs d 113 60 ls st σ1 Q) := am_r_bastore d113_59
theorem r113_60  : am_Rn L xs d 113 60 ls st σ Q = am_la ls 0 (fun x => am_Rn L xs d 113 61 ls (x :: st) σ Q) := am_r_aload_n d113_60
theorem r113_61 {p : Nat} : am_Rn L xs d 113 61 ls (.ref p :: st) σ Q = am_fd σ p 6 31 (fun v => am_Rn L xs d 113 64 ls (v :: st) σ Q) := am_r_getfield d113_61 rfl
theorem r113_64  : am_Rn L xs d 113 64 ls st σ Q = am_li ls 2 (fun x => am_Rn L xs d 113 65 ls (.int x :: st) σ Q) := am_r_iload_n d113_64
theorem r113_65  : am_Rn L xs d 113 65 ls st σ Q = am_la ls 0 (fun x => am_Rn L xs d 113 66 ls (x :: st) σ Q) := am_r_aload_n d113_65
theorem r113_66 {p : Nat} : am_Rn L xs d 113 66 ls (.ref p :: st) σ Q = am_fd σ p 6 1 (fun v => am_Rn L xs d 113 69 ls (v :: st) σ Q) := am_r_getfield d113_66 rfl
theorem r113_69  : am_Rn L xs d 113 69 ls st σ Q = am_Rn L xs d 113 71 ls (.int 12 :: st) σ Q := am_r_bipush d113_69 (by decide)
theorem r113_71  : am_Rn L xs d 113 71 ls st σ Q = am_li ls 1 (fun x => am_Rn L xs d 113 72 ls (.int x :: st) σ Q) := am_r_iload_n d113_71
theorem r113_72 {a b : Int32} : am_Rn L xs d 113 72 ls (.int b :: .int a :: st) σ Q = am_Rn L xs d 113 73 ls (.int (a * b) :: st) σ Q := am_r_imul d113_72
theorem r113_73  : am_Rn L xs d 113 73 ls st σ Q = am_li ls 2 (fun x => am_Rn L xs d 113 74 ls (.int x :: st) σ Q) := am_r_iload_n d113_73
theorem r113_74 {a b : Int32} : am_Rn L xs d 113 74 ls (.int b :: .int a :: st) σ Q = am_Rn L xs d 113 75 ls (.int (a + b) :: st) σ Q := am_r_iadd d113_74
theorem r113_75 {p : Nat} {i : Int32} : am_Rn L xs d 113 75 ls (.int i :: .ref p :: st) σ Q = am_ai 0 σ p i (fun x => am_Rn L xs d 113 76 ls (.int x :: st) σ Q) := am_r_iaload d113_75
theorem r113_76 {p : Nat} {i x : Int32} : am_Rn L xs d 113 76 ls (.int x :: .int i :: .ref p :: st) σ Q = am_wi 0 σ p i x (fun σ1 => am_Rn L xs d 113 77 ls st σ1 Q) := am_r_iastore d113_76
theorem r113_77  : am_Rn L xs d 113 77 ls st σ Q = am_la ls 0 (fun x => am_Rn L xs d 113 78 ls (x :: st) σ Q) := am_r_aload_n d113_77
theorem r113_78 {p : Nat} : am_Rn L xs d 113 78 ls (.ref p :: st) σ Q = am_fd σ p 6 32 (fun v => am_Rn L xs d 113 81 ls (v :: st) σ Q) := am_r_getfield d113_78 rfl
theorem r113_81  : am_Rn L xs d 113 81 ls st σ Q = am_li ls 2 (fun x => am_Rn L xs d 113 82 ls (.int x :: st) σ Q) := am_r_iload_n d113_81
theorem r113_82  : am_Rn L xs d 113 82 ls st σ Q = am_la ls 0 (fun x => am_Rn L xs d 113 83 ls (x :: st) σ Q) := am_r_aload_n d113_82
theorem r113_83 {p : Nat} : am_Rn L xs d 113 83 ls (.ref p :: st) σ Q = am_fd σ p 6 2 (fun v => am_Rn L xs d 113 86 ls (v :: st) σ Q) := am_r_getfield d113_83 rfl
theorem r113_86  : am_Rn L xs d 113 86 ls st σ Q = am_Rn L xs d 113 88 ls (.int 12 :: st) σ Q := am_r_bipush d113_86 (by decide)
theorem r113_88  : am_Rn L xs d 113 88 ls st σ Q = am_li ls 1 (fun x => am_Rn L xs d 113 89 ls (.int x :: st) σ Q) := am_r_iload_n d113_88
theorem r113_89 {a b : Int32} : am_Rn L xs d 113 89 ls (.int b :: .int a :: st) σ Q = am_Rn L xs d 113 90 ls (.int (a * b) :: st) σ Q := am_r_imul d113_89
theorem r113_90  : am_Rn L xs d 113 90 ls st σ Q = am_li ls 2 (fun x => am_Rn L xs d 113 91 ls (.int x :: st) σ Q) := am_r_iload_n d113_90
theorem r113_91 {a b : Int32} : am_Rn L xs d 113 91 ls (.int b :: .int a :: st) σ Q = am_Rn L xs d 113 92 ls (.int (a + b) :: st) σ Q := am_r_iadd d113_91
theorem r113_92 {p : Nat} {i : Int32} : am_Rn L xs d 113 92 ls (.int i :: .ref p :: st) σ Q = am_ai 0 σ p i (fun x => am_Rn L xs d 113 93 ls (.int x :: st) σ Q) := am_r_iaload d113_92
theorem r113_93 {p : Nat} {i x : Int32} : am_Rn L xs d 113 93 ls (.int x :: .int i :: .ref p :: st) σ Q = am_wi 0 σ p i x (fun σ1 => am_Rn L xs d 113 94 ls st σ1 Q) := am_r_iastore d113_93
theorem r113_94  : am_Rn L xs d 113 94 ls st σ Q = am_la ls 0 (fun x => am_Rn L xs d 113 95 ls (x :: st) σ Q) := am_r_aload_n d113_94
theorem r113_95 {p : Nat} : am_Rn L xs d 113 95 ls (.ref p :: st) σ Q = am_fd σ p 6 33 (fun v => am_Rn L xs d 113 98 ls (v :: st) σ Q) := am_r_getfield d113_95 rfl
theorem r113_98  : am_Rn L xs d 113 98 ls st σ Q = am_li ls 2 (fun x => am_Rn L xs d 113 99 ls (.int x :: st) σ Q) := am_r_iload_n d113_98
theorem r113_99  : am_Rn L xs d 113 99 ls st σ Q = am_la ls 0 (fun x => am_Rn L xs d 113 100 ls (x :: st) σ Q) := am_r_aload_n d113_99
theorem r113_100 {p : Nat} : am_Rn L xs d 113 100 ls (.ref p :: st) σ Q = am_fd σ p 6 3 (fun v => am_Rn L xs d 113 103 ls (v :: st) σ Q) := am_r_getfield d113_100 rfl
theorem r113_103  : am_Rn L xs d 113 103 ls st σ Q = am_Rn L xs d 113 105 ls (.int 12 :: st) σ Q := am_r_bipush d113_103 (by decide)
theorem r113_105  : am_Rn L xs d 113 105 ls st σ Q = am_li ls 1 (fun x => am_Rn L xs d 113 106 ls (.int x :: st) σ Q) := am_r_iload_n d113_105
theorem r113_106 {a b : Int32} : am_Rn L xs d 113 106 ls (.int b :: .int a :: st) σ Q = am_Rn L xs d 113 107 ls (.int (a * b) :: st) σ Q := am_r_imul d113_106
theorem r113_107  : am_Rn L xs d 113 107 ls st σ Q = am_li ls 2 (fun x => am_Rn L xs d 113 108 ls (.int x :: st) σ Q) := am_r_iload_n d113_107
theorem r113_108 {a b : Int32} : am_Rn L xs d 113 108 ls (.int b :: .int a :: st) σ Q = am_Rn L xs d 113 109 ls (.int (a + b) :: st) σ Q := am_r_iadd d113_108
theorem r113_109 {p : Nat} {i : Int32} : am_Rn L xs d 113 109 ls (.int i :: .ref p :: st) σ Q = am_ai 0 σ p i (fun x => am_Rn L xs d 113 110 ls (.int x :: st) σ Q) := am_r_iaload d113_109
theorem r113_110 {p : Nat} {i x : Int32} : am_Rn L xs d 113 110 ls (.int x :: .int i :: .ref p :: st) σ Q = am_wi 0 σ p i x (fun σ1 => am_Rn L xs d 113 111 ls st σ1 Q) := am_r_iastore d113_110
theorem r113_111  : am_Rn L xs d 113 111 ls st σ Q = am_la ls 0 (fun x => am_Rn L xs d 113 112 ls (x :: st) σ Q) := am_r_aload_n d113_111
theorem r113_112 {p : Nat} : am_Rn L xs d 113 112 ls (.ref p :: st) σ Q = am_fd σ p 6 34 (fun v => am_Rn L xs d 113 115 ls (v :: st) σ Q) := am_r_getfield d113_112 rfl
theorem r113_115  : am_Rn L xs d 113 115 ls st σ Q = am_li ls 2 (fun x => am_Rn L xs d 113 116 ls (.int x :: st) σ Q) := am_r_iload_n d113_115
theorem r113_116  : am_Rn L xs d 113 116 ls st σ Q = am_li ls 2 (fun x => am_Rn L xs d 113 117 ls (.int x :: st) σ Q) := am_r_iload_n d113_116
theorem r113_117 {p : Nat} {i x : Int32} : am_Rn L xs d 113 117 ls (.int x :: .int i :: .ref p :: st) σ Q = am_wi 0 σ p i x (fun σ1 => am_Rn L xs d 113 118 ls st σ1 Q) := am_r_iastore d113_117
theorem r113_118  : am_Rn L xs d 113 118 ls st σ Q = am_li ls 2 (fun x => am_Rn L xs d 113 121 (ls.set 2 (.int (x + 1))) st σ Q) := am_r_iinc d113_118 (by decide)
theorem r113_121  : am_Rn L xs d 113 121 ls st σ Q = am_Rn L xs d 113 43 ls st σ Q := am_r_goto d113_121 (by decide)
theorem r113_124  : am_Rn L xs d 113 124 ls [] σ Q = Q none σ := am_r_return d113_124 rfl
end
