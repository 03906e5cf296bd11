/-! Rows of the program's instructions, written by program (wip/gen/gen_rows.py) -/
section
variable {L : Nat} {xs : Nat → Int32} {d : Nat} {ls st : List Value} {σ : am_S} {Q : Option Value → am_S → Prop}
theorem d46_0 : decode (pg_code 46) 0 = .ok (.aload_n 0, 1) := by decide +kernel
theorem d46_1 : decode (pg_code 46) 1 = .ok (.iconst 0, 1) := by decide +kernel
theorem d46_2 : decode (pg_code 46) 2 = .ok (.putfield 16, 3) := by decide +kernel
theorem d46_5 : decode (pg_code 46) 5 = .ok (.return_, 1) := by decide +kernel
theorem e46 {b1 : Value} : am_Call L xs d 46 [b1] σ Q = am_Rn L xs d 46 0 [b1] [] σ Q := rfl
theorem r46_0  : am_Rn L xs d 46 0 ls st σ Q = am_la ls 0 (fun x => am_Rn L xs d 46 1 ls (x :: st) σ Q) := am_r_aload_n d46_0
theorem r46_1  : am_Rn L xs d 46 1 ls st σ Q = am_Rn L xs d 46 2 ls (.int 0 :: st) σ Q := am_r_iconst d46_1 (by decide)
theorem r46_2 {p : Nat} {v : Value} : am_Rn L xs d 46 2 ls (v :: .ref p :: st) σ Q = am_wf 46 2 σ p 2 1 v (fun σ1 => am_Rn L xs d 46 5 ls st σ1 Q) := am_r_putfield d46_2 rfl
theorem r46_5  : am_Rn L xs d 46 5 ls [] σ Q = Q none σ := am_r_return d46_5 rfl
theorem d50_0 : decode (pg_code 50) 0 = .ok (.aload_n 0, 1) := by decide +kernel
theorem d50_1 : decode (pg_code 50) 1 = .ok (.iconst 0, 1) := by decide +kernel
theorem d50_2 : decode (pg_code 50) 2 = .ok (.iload_n 1, 1) := by decide +kernel
theorem d50_3 : decode (pg_code 50) 3 = .ok (.iload_n 2, 1) := by decide +kernel
theorem d50_4 : decode (pg_code 50) 4 = .ok (.iload_n 3, 1) := by decide +kernel
theorem d50_5 : decode (pg_code 50) 5 = .ok (.iload 4, 2) := by decide +kernel
theorem d50_7 : decode (pg_code 50) 7 = .ok (.iload 5, 2) := by decide +kernel
theorem d50_9 : decode (pg_code 50) 9 = .ok (.invokevirtual 20, 3) := by decide +kernel
theorem d50_12 : decode (pg_code 50) 12 = .ok (.return_, 1) := by decide +kernel
theorem e50 {b1 b2 b3 b4 b5 b6 : Value} : am_Call L xs d 50 [b1, b2, b3, b4, b5, b6] σ Q = am_Rn L xs d 50 0 [b1, b2, b3, b4, b5, b6] [] σ Q := rfl
theorem r50_0  : am_Rn L xs d 50 0 ls st σ Q = am_la ls 0 (fun x => am_Rn L xs d 50 1 ls (x :: st) σ Q) := am_r_aload_n d50_0
theorem r50_1  : am_Rn L xs d 50 1 ls st σ Q = am_Rn L xs d 50 2 ls (.int 0 :: st) σ Q := am_r_iconst d50_1 (by decide)
theorem r50_2  : am_Rn L xs d 50 2 ls st σ Q = am_li ls 1 (fun x => am_Rn L xs d 50 3 ls (.int x :: st) σ Q) := am_r_iload_n d50_2
theorem r50_3  : am_Rn L xs d 50 3 ls st σ Q = am_li ls 2 (fun x => am_Rn L xs d 50 4 ls (.int x :: st) σ Q) := am_r_iload_n d50_3
theorem r50_4  : am_Rn L xs d 50 4 ls st σ Q = am_li ls 3 (fun x => am_Rn L xs d 50 5 ls (.int x :: st) σ Q) := am_r_iload_n d50_4
theorem r50_5  : am_Rn L xs d 50 5 ls st σ Q = am_li ls 4 (fun x => am_Rn L xs d 50 7 ls (.int x :: st) σ Q) := am_r_iload d50_5
theorem r50_7  : am_Rn L xs d 50 7 ls st σ Q = am_li ls 5 (fun x => am_Rn L xs d 50 9 ls (.int x :: st) σ Q) := am_r_iload d50_7
theorem r50_9 {a1 a2 a3 a4 a5 a6 : Value} {p : Nat} : am_Rn L xs (d + 1) 50 9 ls (a6 :: a5 :: a4 :: a3 :: a2 :: a1 :: .ref p :: st) σ Q = ((am_oc σ p = 2 ∧ st.length ≤ 4 ∧ am_ok a1 = true ∧ am_ok a2 = true ∧ am_ok a3 = true ∧ am_ok a4 = true ∧ am_ok a5 = true ∧ am_ok a6 = true) ∧ am_Call L xs d 51 [.ref p, a1, a2, a3, a4, a5, a6] σ (fun r σ1 => am_Rn L xs (d + 1) 50 12 ls (r.toList ++ st) σ1 Q)) := am_R_virtual6 d50_9 rfl ⟨by decide, rfl⟩ rfl rfl (by decide)
theorem r50_12  : am_Rn L xs d 50 12 ls [] σ Q = Q none σ := am_r_return d50_12 rfl
theorem d51_0 : decode (pg_code 51) 0 = .ok (.aload_n 0, 1) := by decide +kernel
theorem d51_1 : decode (pg_code 51) 1 = .ok (.getfield 16, 3) := by decide +kernel
theorem d51_4 : decode (pg_code 51) 4 = .ok (.bipush 24, 2) := by decide +kernel
theorem d51_6 : decode (pg_code 51) 6 = .ok (.if_icmp .lt 4, 3) := by decide +kernel
theorem d51_9 : decode (pg_code 51) 9 = .ok (.return_, 1) := by decide +kernel
theorem d51_10 : decode (pg_code 51) 10 = .ok (.aload_n 0, 1) := by decide +kernel
theorem d51_11 : decode (pg_code 51) 11 = .ok (.getfield 11, 3) := by decide +kernel
theorem d51_14 : decode (pg_code 51) 14 = .ok (.iconst 0, 1) := by decide +kernel
theorem d51_15 : decode (pg_code 51) 15 = .ok (.aaload, 1) := by decide +kernel
theorem d51_16 : decode (pg_code 51) 16 = .ok (.aload_n 0, 1) := by decide +kernel
theorem d51_17 : decode (pg_code 51) 17 = .ok (.getfield 16, 3) := by decide +kernel
theorem d51_20 : decode (pg_code 51) 20 = .ok (.iload_n 1, 1) := by decide +kernel
theorem d51_21 : decode (pg_code 51) 21 = .ok (.iastore, 1) := by decide +kernel
theorem d51_22 : decode (pg_code 51) 22 = .ok (.aload_n 0, 1) := by decide +kernel
theorem d51_23 : decode (pg_code 51) 23 = .ok (.getfield 11, 3) := by decide +kernel
theorem d51_26 : decode (pg_code 51) 26 = .ok (.iconst 1, 1) := by decide +kernel
theorem d51_27 : decode (pg_code 51) 27 = .ok (.aaload, 1) := by decide +kernel
theorem d51_28 : decode (pg_code 51) 28 = .ok (.aload_n 0, 1) := by decide +kernel
theorem d51_29 : decode (pg_code 51) 29 = .ok (.getfield 16, 3) := by decide +kernel
theorem d51_32 : decode (pg_code 51) 32 = .ok (.iload_n 2, 1) := by decide +kernel
theorem d51_33 : decode (pg_code 51) 33 = .ok (.iastore, 1) := by decide +kernel
theorem d51_34 : decode (pg_code 51) 34 = .ok (.aload_n 0, 1) := by decide +kernel
theorem d51_35 : decode (pg_code 51) 35 = .ok (.getfield 11, 3) := by decide +kernel
theorem d51_38 : decode (pg_code 51) 38 = .ok (.iconst 2, 1) := by decide +kernel
theorem d51_39 : decode (pg_code 51) 39 = .ok (.aaload, 1) := by decide +kernel
theorem d51_40 : decode (pg_code 51) 40 = .ok (.aload_n 0, 1) := by decide +kernel
theorem d51_41 : decode (pg_code 51) 41 = .ok (.getfield 16, 3) := by decide +kernel
theorem d51_44 : decode (pg_code 51) 44 = .ok (.iload_n 3, 1) := by decide +kernel
theorem d51_45 : decode (pg_code 51) 45 = .ok (.iastore, 1) := by decide +kernel
theorem d51_46 : decode (pg_code 51) 46 = .ok (.aload_n 0, 1) := by decide +kernel
theorem d51_47 : decode (pg_code 51) 47 = .ok (.getfield 11, 3) := by decide +kernel
theorem d51_50 : decode (pg_code 51) 50 = .ok (.iconst 3, 1) := by decide +kernel
theorem d51_51 : decode (pg_code 51) 51 = .ok (.aaload, 1) := by decide +kernel
theorem d51_52 : decode (pg_code 51) 52 = .ok (.aload_n 0, 1) := by decide +kernel
theorem d51_53 : decode (pg_code 51) 53 = .ok (.getfield 16, 3) := by decide +kernel
theorem d51_56 : decode (pg_code 51) 56 = .ok (.iload 4, 2) := by decide +kernel
theorem d51_58 : decode (pg_code 51) 58 = .ok (.iastore, 1) := by decide +kernel
theorem d51_59 : decode (pg_code 51) 59 = .ok (.aload_n 0, 1) := by decide +kernel
theorem d51_60 : decode (pg_code 51) 60 = .ok (.getfield 11, 3) := by decide +kernel
theorem d51_63 : decode (pg_code 51) 63 = .ok (.iconst 4, 1) := by decide +kernel
theorem d51_64 : decode (pg_code 51) 64 = .ok (.aaload, 1) := by decide +kernel
theorem d51_65 : decode (pg_code 51) 65 = .ok (.aload_n 0, 1) := by decide +kernel
theorem d51_66 : decode (pg_code 51) 66 = .ok (.getfield 16, 3) := by decide +kernel
theorem d51_69 : decode (pg_code 51) 69 = .ok (.iload 5, 2) := by decide +kernel
theorem d51_71 : decode (pg_code 51) 71 = .ok (.iastore, 1) := by decide +kernel
theorem d51_72 : decode (pg_code 51) 72 = .ok (.aload_n 0, 1) := by decide +kernel
theorem d51_73 : decode (pg_code 51) 73 = .ok (.getfield 11, 3) := by decide +kernel
theorem d51_76 : decode (pg_code 51) 76 = .ok (.iconst 5, 1) := by decide +kernel
theorem d51_77 : decode (pg_code 51) 77 = .ok (.aaload, 1) := by decide +kernel
theorem d51_78 : decode (pg_code 51) 78 = .ok (.aload_n 0, 1) := by decide +kernel
theorem d51_79 : decode (pg_code 51) 79 = .ok (.getfield 16, 3) := by decide +kernel
theorem d51_82 : decode (pg_code 51) 82 = .ok (.iload 6, 2) := by decide +kernel
theorem d51_84 : decode (pg_code 51) 84 = .ok (.iastore, 1) := by decide +kernel
theorem d51_85 : decode (pg_code 51) 85 = .ok (.aload_n 0, 1) := by decide +kernel
theorem d51_86 : decode (pg_code 51) 86 = .ok (.dup, 1) := by decide +kernel
theorem d51_87 : decode (pg_code 51) 87 = .ok (.getfield 16, 3) := by decide +kernel
theorem d51_90 : decode (pg_code 51) 90 = .ok (.iconst 1, 1) := by decide +kernel
theorem d51_91 : decode (pg_code 51) 91 = .ok (.iadd, 1) := by decide +kernel
theorem d51_92 : decode (pg_code 51) 92 = .ok (.putfield 16, 3) := by decide +kernel
theorem d51_95 : decode (pg_code 51) 95 = .ok (.return_, 1) := by decide +kernel
theorem e51 {b1 b2 b3 b4 b5 b6 b7 : Value} : am_Call L xs d 51 [b1, b2, b3, b4, b5, b6, b7] σ Q = am_Rn L xs d 51 0 [b1, b2, b3, b4, b5, b6, b7] [] σ Q := rfl
theorem r51_0  : am_Rn L xs d 51 0 ls st σ Q = am_la ls 0 (fun x => am_Rn L xs d 51 1 ls (x :: st) σ Q) := am_r_aload_n d51_0
theorem r51_1 {p : Nat} : am_Rn L xs d 51 1 ls (.ref p :: st) σ Q = am_fd σ p 2 1 (fun v => am_Rn L xs d 51 4 ls (v :: st) σ Q) := am_r_getfield d51_1 rfl
theorem r51_4  : am_Rn L xs d 51 4 ls st σ Q = am_Rn L xs d 51 6 ls (.int 24 :: st) σ Q := am_r_bipush d51_4 (by decide)
theorem r51_6 {a b : Int32} : am_Rn L xs d 51 6 ls (.int b :: .int a :: st) σ Q = if a < b then am_Rn L xs d 51 10 ls st σ Q else am_Rn L xs d 51 9 ls st σ Q := (am_r_icmp (t := 10) d51_6 (by decide)).trans (am_ite _ _ trivial (by simp only [am_cond, decide_eq_true_eq]))
theorem r51_9  : am_Rn L xs d 51 9 ls [] σ Q = Q none σ := am_r_return d51_9 rfl
theorem r51_10  : am_Rn L xs d 51 10 ls st σ Q = am_la ls 0 (fun x => am_Rn L xs d 51 11 ls (x :: st) σ Q) := am_r_aload_n d51_10
theorem r51_11 {p : Nat} : am_Rn L xs d 51 11 ls (.ref p :: st) σ Q = am_fd σ p 2 0 (fun v => am_Rn L xs d 51 14 ls (v :: st) σ Q) := am_r_getfield d51_11 rfl
theorem r51_14  : am_Rn L xs d 51 14 ls st σ Q = am_Rn L xs d 51 15 ls (.int 0 :: st) σ Q := am_r_iconst d51_14 (by decide)
theorem r51_15 {p : Nat} {i : Int32} : am_Rn L xs d 51 15 ls (.int i :: .ref p :: st) σ Q = am_ar2 σ p i (fun q => am_Rn L xs d 51 16 ls (.ref q :: st) σ Q) := am_r_aaload d51_15
theorem r51_16  : am_Rn L xs d 51 16 ls st σ Q = am_la ls 0 (fun x => am_Rn L xs d 51 17 ls (x :: st) σ Q) := am_r_aload_n d51_16
theorem r51_17 {p : Nat} : am_Rn L xs d 51 17 ls (.ref p :: st) σ Q = am_fd σ p 2 1 (fun v => am_Rn L xs d 51 20 ls (v :: st) σ Q) := am_r_getfield d51_17 rfl
theorem r51_20  : am_Rn L xs d 51 20 ls st σ Q = am_li ls 1 (fun x => am_Rn L xs d 51 21 ls (.int x :: st) σ Q) := am_r_iload_n d51_20
theorem r51_21 {p : Nat} {i x : Int32} : am_Rn L xs d 51 21 ls (.int x :: .int i :: .ref p :: st) σ Q = am_wi 0 σ p i x (fun σ1 => am_Rn L xs d 51 22 ls st σ1 Q) := am_r_iastore d51_21
theorem r51_22  : am_Rn L xs d 51 22 ls st σ Q = am_la ls 0 (fun x => am_Rn L xs d 51 23 ls (x :: st) σ Q) := am_r_aload_n d51_22
theorem r51_23 {p : Nat} : am_Rn L xs d 51 23 ls (.ref p :: st) σ Q = am_fd σ p 2 0 (fun v => am_Rn L xs d 51 26 ls (v :: st) σ Q) := am_r_getfield d51_23 rfl
theorem r51_26  : am_Rn L xs d 51 26 ls st σ Q = am_Rn L xs d 51 27 ls (.int 1 :: st) σ Q := am_r_iconst d51_26 (by decide)
theorem r51_27 {p : Nat} {i : Int32} : am_Rn L xs d 51 27 ls (.int i :: .ref p :: st) σ Q = am_ar2 σ p i (fun q => am_Rn L xs d 51 28 ls (.ref q :: st) σ Q) := am_r_aaload d51_27
theorem r51_28  : am_Rn L xs d 51 28 ls st σ Q = am_la ls 0 (fun x => am_Rn L xs d 51 29 ls (x :: st) σ Q) := am_r_aload_n d51_28
theorem r51_29 {p : Nat} : am_Rn L xs d 51 29 ls (.ref p :: st) σ Q = am_fd σ p 2 1 (fun v => am_Rn L xs d 51 32 ls (v :: st) σ Q) := am_r_getfield d51_29 rfl
theorem r51_32  : am_Rn L xs d 51 32 ls st σ Q = am_li ls 2 (fun x => am_Rn L xs d 51 33 ls (.int x :: st) σ Q) := am_r_iload_n d51_32
theorem r51_33 {p : Nat} {i x : Int32} : am_Rn L xs d 51 33 ls (.int x :: .int i :: .ref p :: st) σ Q = am_wi 0 σ p i x (fun σ1 => am_Rn L xs d 51 34 ls st σ1 Q) := am_r_iastore d51_33
theorem r51_34  : am_Rn L xs d 51 34 ls st σ Q = am_la ls 0 (fun x => am_Rn L xs d 51 35 ls (x :: st) σ Q) := am_r_aload_n d51_34
theorem r51_35 {p : Nat} : am_Rn L xs d 51 35 ls (.ref p :: st) σ Q = am_fd σ p 2 0 (fun v => am_Rn L xs d 51 38 ls (v :: st) σ Q) := am_r_getfield d51_35 rfl
theorem r51_38  : am_Rn L xs d 51 38 ls st σ Q = am_Rn L xs d 51 39 ls (.int 2 :: st) σ Q := am_r_iconst d51_38 (by decide)
theorem r51_39 {p : Nat} {i : Int32} : am_Rn L xs d 51 39 ls (.int i :: .ref p :: st) σ Q = am_ar2 σ p i (fun q => am_Rn L xs d 51 40 ls (.ref q :: st) σ Q) := am_r_aaload d51_39
theorem r51_40  : am_Rn L xs d 51 40 ls st σ Q = am_la ls 0 (fun x => am_Rn L xs d 51 41 ls (x :: st) σ Q) := am_r_aload_n d51_40
theorem r51_41 {p : Nat} : am_Rn L xs d 51 41 ls (.ref p :: st) σ Q = am_fd σ p 2 1 (fun v => am_Rn L xs d 51 44 ls (v :: st) σ Q) := am_r_getfield d51_41 rfl
theorem r51_44  : am_Rn L xs d 51 44 ls st σ Q = am_li ls 3 (fun x => am_Rn L xs d 51 45 ls (.int x :: st) σ Q) := am_r_iload_n d51_44
theorem r51_45 {p : Nat} {i x : Int32} : am_Rn L xs d 51 45 ls (.int x :: .int i :: .ref p :: st) σ Q = am_wi 0 σ p i x (fun σ1 => am_Rn L xs d 51 46 ls st σ1 Q) := am_r_iastore d51_45
theorem r51_46  : am_Rn L xs d 51 46 ls st σ Q = am_la ls 0 (fun x => am_Rn L xs d 51 47 ls (x :: st) σ Q) := am_r_aload_n d51_46
theorem r51_47 {p : Nat} : am_Rn L xs d 51 47 ls (.ref p :: st) σ Q = am_fd σ p 2 0 (fun v => am_Rn L xs d 51 50 ls (v :: st) σ Q) := am_r_getfield d51_47 rfl
theorem r51_50  : am_Rn L xs d 51 50 ls st σ Q = am_Rn L xs d 51 51 ls (.int 3 :: st) σ Q := am_r_iconst d51_50 (by decide)
theorem r51_51 {p : Nat} {i : Int32} : am_Rn L xs d 51 51 ls (.int i :: .ref p :: st) σ Q = am_ar2 σ p i (fun q => am_Rn L xs d 51 52 ls (.ref q :: st) σ Q) := am_r_aaload d51_51
theorem r51_52  : am_Rn L xs d 51 52 ls st σ Q = am_la ls 0 (fun x => am_Rn L xs d 51 53 ls (x :: st) σ Q) := am_r_aload_n d51_52
theorem r51_53 {p : Nat} : am_Rn L xs d 51 53 ls (.ref p :: st) σ Q = am_fd σ p 2 1 (fun v => am_Rn L xs d 51 56 ls (v :: st) σ Q) := am_r_getfield d51_53 rfl
theorem r51_56  : am_Rn L xs d 51 56 ls st σ Q = am_li ls 4 (fun x => am_Rn L xs d 51 58 ls (.int x :: st) σ Q) := am_r_iload d51_56
theorem r51_58 {p : Nat} {i x : Int32} : am_Rn L xs d 51 58 ls (.int x :: .int i :: .ref p :: st) σ Q = am_wi 0 σ p i x (fun σ1 => am_Rn L xs d 51 59 ls st σ1 Q) := am_r_iastore d51_58
theorem r51_59  : am_Rn L xs d 51 59 ls st σ Q = am_la ls 0 (fun x => am_Rn L xs d 51 60 ls (x :: st) σ Q) := am_r_aload_n d51_59
theorem r51_60 {p : Nat} : am_Rn L xs d 51 60 ls (.ref p :: st) σ Q = am_fd σ p 2 0 (fun v => am_Rn L xs d 51 63 ls (v :: st) σ Q) := am_r_getfield d51_60 rfl
theorem r51_63  : am_Rn L xs d 51 63 ls st σ Q = am_Rn L xs d 51 64 ls (.int 4 :: st) σ Q := am_r_iconst d51_63 (by decide)
theorem r51_64 {p : Nat} {i : Int32} : am_Rn L xs d 51 64 ls (.int i :: .ref p :: st) σ Q = am_ar2 σ p i (fun q => am_Rn L xs d 51 65 ls (.ref q :: st) σ Q) := am_r_aaload d51_64
theorem r51_65  : am_Rn L xs d 51 65 ls st σ Q = am_la ls 0 (fun x => am_Rn L xs d 51 66 ls (x :: st) σ Q) := am_r_aload_n d51_65
theorem r51_66 {p : Nat} : am_Rn L xs d 51 66 ls (.ref p :: st) σ Q = am_fd σ p 2 1 (fun v => am_Rn L xs d 51 69 ls (v :: st) σ Q) := am_r_getfield d51_66 rfl
theorem r51_69  : am_Rn L xs d 51 69 ls st σ Q = am_li ls 5 (fun x => am_Rn L xs d 51 71 ls (.int x :: st) σ Q) := am_r_iload d51_69
theorem r51_71 {p : Nat} {i x : Int32} : am_Rn L xs d 51 71 ls (.int x :: .int i :: .ref p :: st) σ Q = am_wi 0 σ p i x (fun σ1 => am_Rn L xs d 51 72 ls st σ1 Q) := am_r_iastore d51_71
theorem r51_72  : am_Rn L xs d 51 72 ls st σ Q = am_la ls 0 (fun x => am_Rn L xs d 51 73 ls (x :: st) σ Q) := am_r_aload_n d51_72
theorem r51_73 {p : Nat} : am_Rn L xs d 51 73 ls (.ref p :: st) σ Q = am_fd σ p 2 0 (fun v => am_Rn L xs d 51 76 ls (v :: st) σ Q) := am_r_getfield d51_73 rfl
theorem r51_76  : am_Rn L xs d 51 76 ls st σ Q = am_Rn L xs d 51 77 ls (.int 5 :: st) σ Q := am_r_iconst d51_76 (by decide)
theorem r51_77 {p : Nat} {i : Int32} : am_Rn L xs d 51 77 ls (.int i :: .ref p :: st) σ Q = am_ar2 σ p i (fun q => am_Rn L xs d 51 78 ls (.ref q :: st) σ Q) := am_r_aaload d51_77
theorem r51_78  : am_Rn L xs d 51 78 ls st σ Q = am_la ls 0 (fun x => am_Rn L xs d 51 79 ls (x :: st) σ Q) := am_r_aload_n d51_78
theorem r51_79 {p : Nat} : am_Rn L xs d 51 79 ls (.ref p :: st) σ Q = am_fd σ p 2 1 (fun v => am_Rn L xs d 51 82 ls (v :: st) σ Q) := am_r_getfield d51_79 rfl
theorem r51_82  : am_Rn L xs d 51 82 ls st σ Q = am_li ls 6 (fun x => am_Rn L xs d 51 84 ls (.int x :: st) σ Q) := am_r_iload d51_82
theorem r51_84 {p : Nat} {i x : Int32} : am_Rn L xs d 51 84 ls (.int x :: .int i :: .ref p :: st) σ Q = am_wi 0 σ p i x (fun σ1 => am_Rn L xs d 51 85 ls st σ1 Q) := am_r_iastore d51_84
theorem r51_85  : am_Rn L xs d 51 85 ls st σ Q = am_la ls 0 (fun x => am_Rn L xs d 51 86 ls (x :: st) σ Q) := am_r_aload_n d51_85
theorem r51_86 {a : Value} : am_Rn L xs d 51 86 ls (a :: st) σ Q = (am_ok a = true ∧ am_Rn L xs d 51 87 ls (a :: a :: st) σ Q) := am_r_dup d51_86
theorem r51_87 {p : Nat} : am_Rn L xs d 51 87 ls (.ref p :: st) σ Q = am_fd σ p 2 1 (fun v => am_Rn L xs d 51 90 ls (v :: st) σ Q) := am_r_getfield d51_87 rfl
theorem r51_90  : am_Rn L xs d 51 90 ls st σ Q = am_Rn L xs d 51 91 ls (.int 1 :: st) σ Q := am_r_iconst d51_90 (by decide)
theorem r51_91 {a b : Int32} : am_Rn L xs d 51 91 ls (.int b :: .int a :: st) σ Q = am_Rn L xs d 51 92 ls (.int (a + b) :: st) σ Q := am_r_iadd d51_91
theorem r51_92 {p : Nat} {v : Value} : am_Rn L xs d 51 92 ls (v :: .ref p :: st) σ Q = am_wf 51 2 σ p 2 1 v (fun σ1 => am_Rn L xs d 51 95 ls st σ1 Q) := am_r_putfield d51_92 rfl
theorem r51_95  : am_Rn L xs d 51 95 ls [] σ Q = Q none σ := am_r_return d51_95 rfl
theorem d52_0 : decode (pg_code 52) 0 = .ok (.aload_n 0, 1) := by decide +kernel
theorem d52_1 : decode (pg_code 52) 1 = .ok (.iconst 1, 1) := by decide +kernel
theorem d52_2 : decode (pg_code 52) 2 = .ok (.iload_n 1, 1) := by decide +kernel
theorem d52_3 : decode (pg_code 52) 3 = .ok (.iconst (-1), 1) := by decide +kernel
theorem d52_4 : decode (pg_code 52) 4 = .ok (.iconst (-1), 1) := by decide +kernel
theorem d52_5 : decode (pg_code 52) 5 = .ok (.iconst (-1), 1) := by decide +kernel
theorem d52_6 : decode (pg_code 52) 6 = .ok (.iload_n 2, 1) := by decide +kernel
theorem d52_7 : decode (pg_code 52) 7 = .ok (.invokevirtual 20, 3) := by decide +kernel
theorem d52_10 : decode (pg_code 52) 10 = .ok (.return_, 1) := by decide +kernel
theorem e52 {b1 b2 b3 : Value} : am_Call L xs d 52 [b1, b2, b3] σ Q = am_Rn L xs d 52 0 [b1, b2, b3] [] σ Q := rfl
theorem r52_0  : am_Rn L xs d 52 0 ls st σ Q = am_la ls 0 (fun x => am_Rn L xs d 52 1 ls (x :: st) σ Q) := am_r_aload_n d52_0
theorem r52_1  : am_Rn L xs d 52 1 ls st σ Q = am_Rn L xs d 52 2 ls (.int 1 :: st) σ Q := am_r_iconst d52_1 (by decide)
theorem r52_2  : am_Rn L xs d 52 2 ls st σ Q = am_li ls 1 (fun x => am_Rn L xs d 52 3 ls (.int x :: st) σ Q) := am_r_iload_n d52_2
theorem r52_3  : am_Rn L xs d 52 3 ls st σ Q = am_Rn L xs d 52 4 ls (.int (-1) :: st) σ Q := am_r_iconst d52_3 (by decide)
theorem r52_4  : am_Rn L xs d 52 4 ls st σ Q = am_Rn L xs d 52 5 ls (.int (-1) :: st) σ Q := am_r_iconst d52_4 (by decide)
theorem r52_5  : am_Rn L xs d 52 5 ls st σ Q = am_Rn L xs d 52 6 ls (.int (-1) :: st) σ Q := am_r_iconst d52_5 (by decide)
theorem r52_6  : am_Rn L xs d 52 6 ls st σ Q = am_li ls 2 (fun x => am_Rn L xs d 52 7 ls (.int x :: st) σ Q) := am_r_iload_n d52_6
theorem r52_7 {a1 a2 a3 a4 a5 a6 : Value} {p : Nat} : am_Rn L xs (d + 1) 52 7 ls (a6 :: a5 :: a4 :: a3 :: a2 :: a1 :: .ref p :: st) σ Q = ((am_oc σ p = 2 ∧ st.length ≤ 4 ∧ am_ok a1 = true ∧ am_ok a2 = true ∧ am_ok a3 = true ∧ am_ok a4 = true ∧ am_ok a5 = true ∧ am_ok a6 = true) ∧ am_Call L xs d 51 [.ref p, a1, a2, a3, a4, a5, a6] σ (fun r σ1 => am_Rn L xs (d + 1) 52 10 ls (r.toList ++ st) σ1 Q)) := am_R_virtual6 d52_7 rfl ⟨by decide, rfl⟩ rfl rfl (by decide)
theorem r52_10  : am_Rn L xs d 52 10 ls [] σ Q = Q none σ := am_r_return d52_10 rfl
theorem d53_0 : decode (pg_code 53) 0 = .ok (.aload_n 0, 1) := by decide +kernel
theorem d53_1 : decode (pg_code 53) 1 = .ok (.iconst 2, 1) := by decide +kernel
theorem d53_2 : decode (pg_code 53) 2 = .ok (.iload_n 1, 1) := by decide +kernel
theorem d53_3 : decode (pg_code 53) 3 = .ok (.iload_n 2, 1) := by decide +kernel
theorem d53_4 : decode (pg_code 53) 4 = .ok (.iload_n 3, 1) := by decide +kernel
theorem d53_5 : decode (pg_code 53) 5 = .ok (.iconst (-1), 1) := by decide +kernel
theorem d53_6 : decode (pg_code 53) 6 = .ok (.iconst 0, 1) := by decide +kernel
theorem d53_7 : decode (pg_code 53) 7 = .ok (.invokevirtual 20, 3) := by decide +kernel
theorem d53_10 : decode (pg_code 53) 10 = .ok (.return_, 1) := by decide +kernel
theorem e53 {b1 b2 b3 b4 : Value} : am_Call L xs d 53 [b1, b2, b3, b4] σ Q = am_Rn L xs d 53 0 [b1, b2, b3, b4] [] σ Q := rfl
theorem r53_0  : am_Rn L xs d 53 0 ls st σ Q = am_la ls 0 (fun x => am_Rn L xs d 53 1 ls (x :: st) σ Q) := am_r_aload_n d53_0
theorem r53_1  : am_Rn L xs d 53 1 ls st σ Q = am_Rn L xs d 53 2 ls (.int 2 :: st) σ Q := am_r_iconst d53_1 (by decide)
theorem r53_2  : am_Rn L xs d 53 2 ls st σ Q = am_li ls 1 (fun x => am_Rn L xs d 53 3 ls (.int x :: st) σ Q) := am_r_iload_n d53_2
theorem r53_3  : am_Rn L xs d 53 3 ls st σ Q = am_li ls 2 (fun x => am_Rn L xs d 53 4 ls (.int x :: st) σ Q) := am_r_iload_n d53_3
theorem r53_4  : am_Rn L xs d 53 4 ls st σ Q = am_li ls 3 (fun x => am_Rn L xs d 53 5 ls (.int x :: st) σ Q) := am_r_iload_n d53_4
theorem r53_5  : am_Rn L xs d 53 5 ls st σ Q = am_Rn L xs d 53 6 ls (.int (-1) :: st) σ Q := am_r_iconst d53_5 (by decide)
theorem r53_6  : am_Rn L xs d 53 6 ls st σ Q = am_Rn L xs d 53 7 ls (.int 0 :: st) σ Q := am_r_iconst d53_6 (by decide)
theorem r53_7 {a1 a2 a3 a4 a5 a6 : Value} {p : Nat} : am_Rn L xs (d + 1) 53 7 ls (a6 :: a5 :: a4 :: a3 :: a2 :: a1 :: .ref p :: st) σ Q = ((am_oc σ p = 2 ∧ st.length ≤ 4 ∧ am_ok a1 = true ∧ am_ok a2 = true ∧ am_ok a3 = true ∧ am_ok a4 = true ∧ am_ok a5 = true ∧ am_ok a6 = true) ∧ am_Call L xs d 51 [.ref p, a1, a2, a3, a4, a5, a6] σ (fun r σ1 => am_Rn L xs (d + 1) 53 10 ls (r.toList ++ st) σ1 Q)) := am_R_virtual6 d53_7 rfl ⟨by decide, rfl⟩ rfl rfl (by decide)
theorem r53_10  : am_Rn L xs d 53 10 ls [] σ Q = Q none σ := am_r_return d53_10 rfl
theorem d55_0 : decode (pg_code 55) 0 = .ok (.aload_n 0, 1) := by decide +kernel
theorem d55_1 : decode (pg_code 55) 1 = .ok (.iconst 3, 1) := by decide +kernel
theorem d55_2 : decode (pg_code 55) 2 = .ok (.iload_n 1, 1) := by decide +kernel
theorem d55_3 : decode (pg_code 55) 3 = .ok (.iconst (-1), 1) := by decide +kernel
theorem d55_4 : decode (pg_code 55) 4 = .ok (.iconst (-1), 1) := by decide +kernel
theorem d55_5 : decode (pg_code 55) 5 = .ok (.iconst (-1), 1) := by decide +kernel
theorem d55_6 : decode (pg_code 55) 6 = .ok (.iconst 0, 1) := by decide +kernel
theorem d55_7 : decode (pg_code 55) 7 = .ok (.invokevirtual 20, 3) := by decide +kernel
theorem d55_10 : decode (pg_code 55) 10 = .ok (.return_, 1) := by decide +kernel
theorem e55 {b1 b2 : Value} : am_Call L xs d 55 [b1, b2] σ Q = am_Rn L xs d 55 0 [b1, b2] [] σ Q := rfl
theorem r55_0  : am_Rn L xs d 55 0 ls st σ Q = am_la ls 0 (fun x => am_Rn L xs d 55 1 ls (x :: st) σ Q) := am_r_aload_n d55_0
theorem r55_1  : am_Rn L xs d 55 1 ls st σ Q = am_Rn L xs d 55 2 ls (.int 3 :: st) σ Q := am_r_iconst d55_1 (by decide)
theorem r55_2  : am_Rn L xs d 55 2 ls st σ Q = am_li ls 1 (fun x => am_Rn L xs d 55 3 ls (.int x :: st) σ Q) := am_r_iload_n d55_2
theorem r55_3  : am_Rn L xs d 55 3 ls st σ Q = am_Rn L xs d 55 4 ls (.int (-1) :: st) σ Q := am_r_iconst d55_3 (by decide)
theorem r55_4  : am_Rn L xs d 55 4 ls st σ Q = am_Rn L xs d 55 5 ls (.int (-1) :: st) σ Q := am_r_iconst d55_4 (by decide)
theorem r55_5  : am_Rn L xs d 55 5 ls st σ Q = am_Rn L xs d 55 6 ls (.int (-1) :: st) σ Q := am_r_iconst d55_5 (by decide)
theorem r55_6  : am_Rn L xs d 55 6 ls st σ Q = am_Rn L xs d 55 7 ls (.int 0 :: st) σ Q := am_r_iconst d55_6 (by decide)
theorem r55_7 {a1 a2 a3 a4 a5 a6 : Value} {p : Nat} : am_Rn L xs (d + 1) 55 7 ls (a6 :: a5 :: a4 :: a3 :: a2 :: a1 :: .ref p :: st) σ Q = ((am_oc σ p = 2 ∧ st.length ≤ 4 ∧ am_ok a1 = true ∧ am_ok a2 = true ∧ am_ok a3 = true ∧ am_ok a4 = true ∧ am_ok a5 = true ∧ am_ok a6 = true) ∧ am_Call L xs d 51 [.ref p, a1, a2, a3, a4, a5, a6] σ (fun r σ1 => am_Rn L xs (d + 1) 55 10 ls (r.toList ++ st) σ1 Q)) := am_R_virtual6 d55_7 rfl ⟨by decide, rfl⟩ rfl rfl (by decide)
theorem r55_10  : am_Rn L xs d 55 10 ls [] σ Q = Q none σ := am_r_return d55_10 rfl
theorem d58_0 : decode (pg_code 58) 0 = .ok (.aload_n 0, 1) := by decide +kernel
theorem d58_1 : decode (pg_code 58) 1 = .ok (.getfield 11, 3) := by decide +kernel
theorem d58_4 : decode (pg_code 58) 4 = .ok (.iload_n 2, 1) := by decide +kernel
theorem d58_5 : decode (pg_code 58) 5 = .ok (.aaload, 1) := by decide +kernel
theorem d58_6 : decode (pg_code 58) 6 = .ok (.iload_n 1, 1) := by decide +kernel
theorem d58_7 : decode (pg_code 58) 7 = .ok (.iaload, 1) := by decide +kernel
theorem d58_8 : decode (pg_code 58) 8 = .ok (.ireturn, 1) := by decide +kernel
theorem e58 {b1 b2 b3 : Value} : am_Call L xs d 58 [b1, b2, b3] σ Q = am_Rn L xs d 58 0 [b1, b2, b3] [] σ Q := rfl
theorem r58_0  : am_Rn L xs d 58 0 ls st σ Q = am_la ls 0 (fun x => am_Rn L xs d 58 1 ls (x :: st) σ Q) := am_r_aload_n d58_0
theorem r58_1 {p : Nat} : am_Rn L xs d 58 1 ls (.ref p :: st) σ Q = am_fd σ p 2 0 (fun v => am_Rn L xs d 58 4 ls (v :: st) σ Q) := am_r_getfield d58_1 rfl
theorem r58_4  : am_Rn L xs d 58 4 ls st σ Q = am_li ls 2 (fun x => am_Rn L xs d 58 5 ls (.int x :: st) σ Q) := am_r_iload_n d58_4
theorem r58_5 {p : Nat} {i : Int32} : am_Rn L xs d 58 5 ls (.int i :: .ref p :: st) σ Q = am_ar2 σ p i (fun q => am_Rn L xs d 58 6 ls (.ref q :: st) σ Q) := am_r_aaload d58_5
theorem r58_6  : am_Rn L xs d 58 6 ls st σ Q = am_li ls 1 (fun x => am_Rn L xs d 58 7 ls (.int x :: st) σ Q) := am_r_iload_n d58_6
theorem r58_7 {p : Nat} {i : Int32} : am_Rn L xs d 58 7 ls (.int i :: .ref p :: st) σ Q = am_ai 0 σ p i (fun x => am_Rn L xs d 58 8 ls (.int x :: st) σ Q) := am_r_iaload d58_7
theorem r58_8 {v : Int32} : am_Rn L xs d 58 8 ls [.int v] σ Q = Q (some (.int v)) σ := am_r_ireturn d58_8 rfl
theorem d60_0 : decode (pg_code 60) 0 = .ok (.iconst 0, 1) := by decide +kernel
theorem d60_1 : decode (pg_code 60) 1 = .ok (.istore_n 2, 1) := by decide +kernel
theorem d60_2 : decode (pg_code 60) 2 = .ok (.iconst 0, 1) := by decide +kernel
theorem d60_3 : decode (pg_code 60) 3 = .ok (.istore_n 3, 1) := by decide +kernel
theorem d60_4 : decode (pg_code 60) 4 = .ok (.iload_n 3, 1) := by decide +kernel
theorem d60_5 : decode (pg_code 60) 5 = .ok (.aload_n 0, 1) := by decide +kernel
theorem d60_6 : decode (pg_code 60) 6 = .ok (.getfield 16, 3) := by decide +kernel
theorem d60_9 : decode (pg_code 60) 9 = .ok (.if_icmp .ge 24, 3) := by decide +kernel
theorem d60_12 : decode (pg_code 60) 12 = .ok (.aload_n 0, 1) := by decide +kernel
theorem d60_13 : decode (pg_code 60) 13 = .ok (.getfield 11, 3) := by decide +kernel
theorem d60_16 : decode (pg_code 60) 16 = .ok (.iconst 0, 1) := by decide +kernel
theorem d60_17 : decode (pg_code 60) 17 = .ok (.aaload, 1) := by decide +kernel
theorem d60_18 : decode (pg_code 60) 18 = .ok (.iload_n 3, 1) := by decide +kernel
theorem d60_19 : decode (pg_code 60) 19 = .ok (.iaload, 1) := by decide +kernel
theorem d60_20 : decode (pg_code 60) 20 = .ok (.iload_n 1, 1) := by decide +kernel
theorem d60_21 : decode (pg_code 60) 21 = .ok (.if_icmp .ne 6, 3) := by decide +kernel
theorem d60_24 : decode (pg_code 60) 24 = .ok (.iinc 2 1, 3) := by decide +kernel
theorem d60_27 : decode (pg_code 60) 27 = .ok (.iinc 3 1, 3) := by decide +kernel
theorem d60_30 : decode (pg_code 60) 30 = .ok (.goto (-26), 3) := by decide +kernel
theorem d60_33 : decode (pg_code 60) 33 = .ok (.iload_n 2, 1) := by decide +kernel
theorem d60_34 : decode (pg_code 60) 34 = .ok (.ireturn, 1) := by decide +kernel
theorem e60 {b1 b2 : Value} : am_Call L xs d 60 [b1, b2] σ Q = am_Rn L xs d 60 0 [b1, b2, .retAddr 0, .retAddr 0] [] σ Q := rfl
theorem r60_0  : am_Rn L xs d 60 0 ls st σ Q = am_Rn L xs d 60 1 ls (.int 0 :: st) σ Q := am_r_iconst d60_0 (by decide)
theorem r60_1 {x : Int32} : am_Rn L xs d 60 1 ls (.int x :: st) σ Q = (2 < ls.length ∧ am_Rn L xs d 60 2 (ls.set 2 (.int x)) st σ Q) := am_r_istore_n d60_1
theorem r60_2  : am_Rn L xs d 60 2 ls st σ Q = am_Rn L xs d 60 3 ls (.int 0 :: st) σ Q := am_r_iconst d60_2 (by decide)
theorem r60_3 {x : Int32} : am_Rn L xs d 60 3 ls (.int x :: st) σ Q = (3 < ls.length ∧ am_Rn L xs d 60 4 (ls.set 3 (.int x)) st σ Q) := am_r_istore_n d60_3
theorem r60_4  : am_Rn L xs d 60 4 ls st σ Q = am_li ls 3 (fun x => am_Rn L xs d 60 5 ls (.int x :: st) σ Q) := am_r_iload_n d60_4
theorem r60_5  : am_Rn L xs d 60 5 ls st σ Q = am_la ls 0 (fun x => am_Rn L xs d 60 6 ls (x :: st) σ Q) := am_r_aload_n d60_5
theorem r60_6 {p : Nat} : am_Rn L xs d 60 6 ls (.ref p :: st) σ Q = am_fd σ p 2 1 (fun v => am_Rn L xs d 60 9 ls (v :: st) σ Q) := am_r_getfield d60_6 rfl
theorem r60_9 {a b : Int32} : am_Rn L xs d 60 9 ls (.int b :: .int a :: st) σ Q = if b ≤ a then am_Rn L xs d 60 33 ls st σ Q else am_Rn L xs d 60 12 ls st σ Q := (am_r_icmp (t := 33) d60_9 (by decide)).trans (am_ite _ _ trivial (by simp only [am_cond, decide_eq_true_eq]))
theorem r60_12  : am_Rn L xs d 60 12 ls st σ Q = am_la ls 0 (fun x => am_Rn L xs d 60 13 ls (x :: st) σ Q) := am_r_aload_n d60_12
theorem r60_13 {p : Nat} : am_Rn L xs d 60 13 ls (.ref p :: st) σ Q = am_fd σ p 2 0 (fun v => am_Rn L xs d 60 16 ls (v :: st) σ Q) := am_r_getfield d60_13 rfl
theorem r60_16  : am_Rn L xs d 60 16 ls st σ Q = am_Rn L xs d 60 17 ls (.int 0 :: st) σ Q := am_r_iconst d60_16 (by decide)
theorem r60_17 {p : Nat} {i : Int32} : am_Rn L xs d 60 17 ls (.int i :: .ref p :: st) σ Q = am_ar2 σ p i (fun q => am_Rn L xs d 60 18 ls (.ref q :: st) σ Q) := am_r_aaload d60_17
theorem r60_18  : am_Rn L xs d 60 18 ls st σ Q = am_li ls 3 (fun x => am_Rn L xs d 60 19 ls (.int x :: st) σ Q) := am_r_iload_n d60_18
theorem r60_19 {p : Nat} {i : Int32} : am_Rn L xs d 60 19 ls (.int i :: .ref p :: st) σ Q = am_ai 0 σ p i (fun x => am_Rn L xs d 60 20 ls (.int x :: st) σ Q) := am_r_iaload d60_19
theorem r60_20  : am_Rn L xs d 60 20 ls st σ Q = am_li ls 1 (fun x => am_Rn L xs d 60 21 ls (.int x :: st) σ Q) := am_r_iload_n d60_20
theorem r60_21 {a b : Int32} : am_Rn L xs d 60 21 ls (.int b :: .int a :: st) σ Q = if ¬ a = b then am_Rn L xs d 60 27 ls st σ Q else am_Rn L xs d 60 24 ls st σ Q := (am_r_icmp (t := 27) d60_21 (by decide)).trans (am_ite _ _ trivial (by simp only [am_cond, decide_eq_true_eq]))
theorem r60_24  : am_Rn L xs d 60 24 ls st σ Q = am_li ls 2 (fun x => am_Rn L xs d 60 27 (ls.set 2 (.int (x + 1))) st σ Q) := am_r_iinc d60_24 (by decide)
theorem r60_27  : am_Rn L xs d 60 27 ls st σ Q = am_li ls 3 (fun x => am_Rn L xs d 60 30 (ls.set 3 (.int (x + 1))) st σ Q) := am_r_iinc d60_27 (by decide)
theorem r60_30  : am_Rn L xs d 60 30 ls st σ Q = am_Rn L xs d 60 4 ls st σ Q := am_r_goto d60_30 (by decide)
theorem r60_33  : am_Rn L xs d 60 33 ls st σ Q = am_li ls 2 (fun x => am_Rn L xs d 60 34 ls (.int x :: st) σ Q) := am_r_iload_n d60_33
theorem r60_34 {v : Int32} : am_Rn L xs d 60 34 ls [.int v] σ Q = Q (some (.int v)) σ := am_r_ireturn d60_34 rfl
theorem d62_0 : decode (pg_code 62) 0 = .ok (.iconst 0, 1) := by decide +kernel
theorem d62_1 : decode (pg_code 62) 1 = .ok (.istore_n 3, 1) := by decide +kernel
theorem d62_2 : decode (pg_code 62) 2 = .ok (.iload_n 3, 1) := by decide +kernel
theorem d62_3 : decode (pg_code 62) 3 = .ok (.iload_n 1, 1) := by decide +kernel
theorem d62_4 : decode (pg_code 62) 4 = .ok (.if_icmp .ge 23, 3) := by decide +kernel
theorem d62_7 : decode (pg_code 62) 7 = .ok (.iload_n 3, 1) := by decide +kernel
theorem d62_8 : decode (pg_code 62) 8 = .ok (.aload_n 0, 1) := by decide +kernel
theorem d62_9 : decode (pg_code 62) 9 = .ok (.getfield 16, 3) := by decide +kernel
theorem d62_12 : decode (pg_code 62) 12 = .ok (.if_icmp .ge 15, 3) := by decide +kernel
theorem d62_15 : decode (pg_code 62) 15 = .ok (.aload_n 0, 1) := by decide +kernel
theorem d62_16 : decode (pg_code 62) 16 = .ok (.iload_n 3, 1) := by decide +kernel
theorem d62_17 : decode (pg_code 62) 17 = .ok (.aload_n 2, 1) := by decide +kernel
theorem d62_18 : decode (pg_code 62) 18 = .ok (.invokevirtual 24, 3) := by decide +kernel
theorem d62_21 : decode (pg_code 62) 21 = .ok (.iinc 3 1, 3) := by decide +kernel
theorem d62_24 : decode (pg_code 62) 24 = .ok (.goto (-22), 3) := by decide +kernel
theorem d62_27 : decode (pg_code 62) 27 = .ok (.return_, 1) := by decide +kernel
theorem e62 {b1 b2 b3 : Value} : am_Call L xs d 62 [b1, b2, b3] σ Q = am_Rn L xs d 62 0 [b1, b2, b3, .retAddr 0] [] σ Q := rfl
theorem r62_0  : am_Rn L xs d 62 0 ls st σ Q = am_Rn L xs d 62 1 ls (.int 0 :: st) σ Q := am_r_iconst d62_0 (by decide)
theorem r62_1 {x : Int32} : am_Rn L xs d 62 1 ls (.int x :: st) σ Q = (3 < ls.length ∧ am_Rn L xs d 62 2 (ls.set 3 (.int x)) st σ Q) := am_r_istore_n d62_1
theorem r62_2  : am_Rn L xs d 62 2 ls st σ Q = am_li ls 3 (fun x => am_Rn L xs d 62 3 ls (.int x :: st) σ Q) := am_r_iload_n d62_2
theorem r62_3  : am_Rn L xs d 62 3 ls st σ Q = am_li ls 1 (fun x => am_Rn L xs d 62 4 ls (.int x :: st) σ Q) := am_r_iload_n d62_3
theorem r62_4 {a b : Int32} : am_Rn L xs d 62 4 ls (.int b :: .int a :: st) σ Q = if b ≤ a then am_Rn L xs d 62 27 ls st σ Q else am_Rn L xs d 62 7 ls st σ Q := (am_r_icmp (t := 27) d62_4 (by decide)).trans (am_ite _ _ trivial (by simp only [am_cond, decide_eq_true_eq]))
theorem r62_7  : am_Rn L xs d 62 7 ls st σ Q = am_li ls 3 (fun x => am_Rn L xs d 62 8 ls (.int x :: st) σ Q) := am_r_iload_n d62_7
theorem r62_8  : am_Rn L xs d 62 8 ls st σ Q = am_la ls 0 (fun x => am_Rn L xs d 62 9 ls (x :: st) σ Q) := am_r_aload_n d62_8
theorem r62_9 {p : Nat} : am_Rn L xs d 62 9 ls (.ref p :: st) σ Q = am_fd σ p 2 1 (fun v => am_Rn L xs d 62 12 ls (v :: st) σ Q) := am_r_getfield d62_9 rfl
theorem r62_12 {a b : Int32} : am_Rn L xs d 62 12 ls (.int b :: .int a :: st) σ Q = if b ≤ a then am_Rn L xs d 62 27 ls st σ Q else am_Rn L xs d 62 15 ls st σ Q := (am_r_icmp (t := 27) d62_12 (by decide)).trans (am_ite _ _ trivial (by simp only [am_cond, decide_eq_true_eq]))
theorem r62_15  : am_Rn L xs d 62 15 ls st σ Q = am_la ls 0 (fun x => am_Rn L xs d 62 16 ls (x :: st) σ Q) := am_r_aload_n d62_15
theorem r62_16  : am_Rn L xs d 62 16 ls st σ Q = am_li ls 3 (fun x => am_Rn L xs d 62 17 ls (.int x :: st) σ Q) := am_r_iload_n d62_16
theorem r62_17  : am_Rn L xs d 62 17 ls st σ Q = am_la ls 2 (fun x => am_Rn L xs d 62 18 ls (x :: st) σ Q) := am_r_aload_n d62_17
theorem r62_18 {a1 a2 : Value} {p : Nat} : am_Rn L xs (d + 1) 62 18 ls (a2 :: a1 :: .ref p :: st) σ Q = ((am_oc σ p = 2 ∧ st.length ≤ 4 ∧ am_ok a1 = true ∧ am_ok a2 = true) ∧ am_Call L xs d 63 [.ref p, a1, a2] σ (fun r σ1 => am_Rn L xs (d + 1) 62 21 ls (r.toList ++ st) σ1 Q)) := am_R_virtual2 d62_18 rfl ⟨by decide, rfl⟩ rfl rfl (by decide)
theorem r62_21  : am_Rn L xs d 62 21 ls st σ Q = am_li ls 3 (fun x => am_Rn L xs d 62 24 (ls.set 3 (.int (x + 1))) st σ Q) := am_r_iinc d62_21 (by decide)
theorem r62_24  : am_Rn L xs d 62 24 ls st σ Q = am_Rn L xs d 62 2 ls st σ Q := am_r_goto d62_24 (by decide)
theorem r62_27  : am_Rn L xs d 62 27 ls [] σ Q = Q none σ := am_r_return d62_27 rfl
theorem d63_0 : decode (pg_code 63) 0 = .ok (.aload_n 0, 1) := by decide +kernel
theorem d63_1 : decode (pg_code 63) 1 = .ok (.getfield 11, 3) := by decide +kernel
theorem d63_4 : decode (pg_code 63) 4 = .ok (.iconst 1, 1) := by decide +kernel
theorem d63_5 : decode (pg_code 63) 5 = .ok (.aaload, 1) := by decide +kernel
theorem d63_6 : decode (pg_code 63) 6 = .ok (.iload_n 1, 1) := by decide +kernel
theorem d63_7 : decode (pg_code 63) 7 = .ok (.iaload, 1) := by decide +kernel
theorem d63_8 : decode (pg_code 63) 8 = .ok (.istore_n 3, 1) := by decide +kernel
theorem d63_9 : decode (pg_code 63) 9 = .ok (.aload_n 0, 1) := by decide +kernel
theorem d63_10 : decode (pg_code 63) 10 = .ok (.getfield 11, 3) := by decide +kernel
theorem d63_13 : decode (pg_code 63) 13 = .ok (.iconst 0, 1) := by decide +kernel
theorem d63_14 : decode (pg_code 63) 14 = .ok (.aaload, 1) := by decide +kernel
theorem d63_15 : decode (pg_code 63) 15 = .ok (.iload_n 1, 1) := by decide +kernel
theorem d63_16 : decode (pg_code 63) 16 = .ok (.iaload, 1) := by decide +kernel
theorem d63_17 : decode (pg_code 63) 17 = .ok (.tableswitch 117 0 2 #[27, 72, 88], 27) := by decide +kernel
theorem d63_44 : decode (pg_code 63) 44 = .ok (.aload_n 2, 1) := by decide +kernel
theorem d63_45 : decode (pg_code 63) 45 = .ok (.iload_n 3, 1) := by decide +kernel
theorem d63_46 : decode (pg_code 63) 46 = .ok (.aload_n 0, 1) := by decide +kernel
theorem d63_47 : decode (pg_code 63) 47 = .ok (.getfield 11, 3) := by decide +kernel
theorem d63_50 : decode (pg_code 63) 50 = .ok (.iconst 4, 1) := by decide +kernel
theorem d63_51 : decode (pg_code 63) 51 = .ok (.aaload, 1) := by decide +kernel
theorem d63_52 : decode (pg_code 63) 52 = .ok (.iload_n 1, 1) := by decide +kernel
theorem d63_53 : decode (pg_code 63) 53 = .ok (.iaload, 1) := by decide +kernel
theorem d63_54 : decode (pg_code 63) 54 = .ok (.aload_n 0, 1) := by decide +kernel
theorem d63_55 : decode (pg_code 63) 55 = .ok (.getfield 11, 3) := by decide +kernel
theorem d63_58 : decode (pg_code 63) 58 = .ok (.iconst 5, 1) := by decide +kernel
theorem d63_59 : decode (pg_code 63) 59 = .ok (.aaload, 1) := by decide +kernel
theorem d63_60 : decode (pg_code 63) 60 = .ok (.iload_n 1, 1) := by decide +kernel
theorem d63_61 : decode (pg_code 63) 61 = .ok (.iaload, 1) := by decide +kernel
theorem d63_62 : decode (pg_code 63) 62 = .ok (.invokevirtual 28, 3) := by decide +kernel
theorem d63_65 : decode (pg_code 63) 65 = .ok (.aload_n 2, 1) := by decide +kernel
theorem d63_66 : decode (pg_code 63) 66 = .ok (.iload_n 3, 1) := by decide +kernel
theorem d63_67 : decode (pg_code 63) 67 = .ok (.aload_n 0, 1) := by decide +kernel
theorem d63_68 : decode (pg_code 63) 68 = .ok (.getfield 11, 3) := by decide +kernel
theorem d63_71 : decode (pg_code 63) 71 = .ok (.iconst 2, 1) := by decide +kernel
theorem d63_72 : decode (pg_code 63) 72 = .ok (.aaload, 1) := by decide +kernel
theorem d63_73 : decode (pg_code 63) 73 = .ok (.iload_n 1, 1) := by decide +kernel
theorem d63_74 : decode (pg_code 63) 74 = .ok (.iaload, 1) := by decide +kernel
theorem d63_75 : decode (pg_code 63) 75 = .ok (.aload_n 0, 1) := by decide +kernel
theorem d63_76 : decode (pg_code 63) 76 = .ok (.getfield 11, 3) := by decide +kernel
theorem d63_79 : decode (pg_code 63) 79 = .ok (.iconst 3, 1) := by decide +kernel
theorem d63_80 : decode (pg_code 63) 80 = .ok (.aaload, 1) := by decide +kernel
theorem d63_81 : decode (pg_code 63) 81 = .ok (.iload_n 1, 1) := by decide +kernel
theorem d63_82 : decode (pg_code 63) 82 = .ok (.iaload, 1) := by decide +kernel
theorem d63_83 : decode (pg_code 63) 83 = .ok (.invokevirtual 34, 3) := by decide +kernel
theorem d63_86 : decode (pg_code 63) 86 = .ok (.goto 53, 3) := by decide +kernel
theorem d63_89 : decode (pg_code 63) 89 = .ok (.aload_n 2, 1) := by decide +kernel
theorem d63_90 : decode (pg_code 63) 90 = .ok (.iload_n 3, 1) := by decide +kernel
theorem d63_91 : decode (pg_code 63) 91 = .ok (.aload_n 0, 1) := by decide +kernel
theorem d63_92 : decode (pg_code 63) 92 = .ok (.getfield 11, 3) := by decide +kernel
theorem d63_95 : decode (pg_code 63) 95 = .ok (.iconst 5, 1) := by decide +kernel
theorem d63_96 : decode (pg_code 63) 96 = .ok (.aaload, 1) := by decide +kernel
theorem d63_97 : decode (pg_code 63) 97 = .ok (.iload_n 1, 1) := by decide +kernel
theorem d63_98 : decode (pg_code 63) 98 = .ok (.iaload, 1) := by decide +kernel
theorem d63_99 : decode (pg_code 63) 99 = .ok (.invokevirtual 37, 3) := by decide +kernel
theorem d63_102 : decode (pg_code 63) 102 = .ok (.goto 37, 3) := by decide +kernel
theorem d63_105 : decode (pg_code 63) 105 = .ok (.aload_n 2, 1) := by decide +kernel
theorem d63_106 : decode (pg_code 63) 106 = .ok (.iload_n 3, 1) := by decide +kernel
theorem d63_107 : decode (pg_code 63) 107 = .ok (.invokevirtual 41, 3) := by decide +kernel
theorem d63_110 : decode (pg_code 63) 110 = .ok (.aload_n 2, 1) := by decide +kernel
theorem d63_111 : decode (pg_code 63) 111 = .ok (.iload_n 3, 1) := by decide +kernel
theorem d63_112 : decode (pg_code 63) 112 = .ok (.aload_n 0, 1) := by decide +kernel
theorem d63_113 : decode (pg_code 63) 113 = .ok (.getfield 11, 3) := by decide +kernel
theorem d63_116 : decode (pg_code 63) 116 = .ok (.iconst 2, 1) := by decide +kernel
theorem d63_117 : decode (pg_code 63) 117 = .ok (.aaload, 1) := by decide +kernel
theorem d63_118 : decode (pg_code 63) 118 = .ok (.iload_n 1, 1) := by decide +kernel
theorem d63_119 : decode (pg_code 63) 119 = .ok (.iaload, 1) := by decide +kernel
theorem d63_120 : decode (pg_code 63) 120 = .ok (.aload_n 0, 1) := by decide +kernel
theorem d63_121 : decode (pg_code 63) 121 = .ok (.getfield 11, 3) := by decide +kernel
theorem d63_124 : decode (pg_code 63) 124 = .ok (.iconst 3, 1) := by decide +kernel
theorem d63_125 : decode (pg_code 63) 125 = .ok (.aaload, 1) := by decide +kernel
theorem d63_126 : decode (pg_code 63) 126 = .ok (.iload_n 1, 1) := by decide +kernel
theorem d63_127 : decode (pg_code 63) 127 = .ok (.iaload, 1) := by decide +kernel
theorem d63_128 : decode (pg_code 63) 128 = .ok (.invokevirtual 34, 3) := by decide +kernel
theorem d63_131 : decode (pg_code 63) 131 = .ok (.goto 8, 3) := by decide +kernel
theorem d63_134 : decode (pg_code 63) 134 = .ok (.aload_n 2, 1) := by decide +kernel
theorem d63_135 : decode (pg_code 63) 135 = .ok (.iload_n 3, 1) := by decide +kernel
theorem d63_136 : decode (pg_code 63) 136 = .ok (.invokevirtual 41, 3) := by decide +kernel
theorem d63_139 : decode (pg_code 63) 139 = .ok (.return_, 1) := by decide +kernel
theorem e63 {b1 b2 b3 : Value} : am_Call L xs d 63 [b1, b2, b3] σ Q = am_Rn L xs d 63 0 [b1, b2, b3, .retAddr 0] [] σ Q := rfl
theorem r63_0  : am_Rn L xs d 63 0 ls st σ Q = am_la ls 0 (fun x => am_Rn L xs d 63 1 ls (x :: st) σ Q) := am_r_aload_n d63_0
theorem r63_1 {p : Nat} : am_Rn L xs d 63 1 ls (.ref p :: st) σ Q = am_fd σ p 2 0 (fun v => am_Rn L xs d 63 4 ls (v :: st) σ Q) := am_r_getfield d63_1 rfl
theorem r63_4  : am_Rn L xs d 63 4 ls st σ Q = am_Rn L xs d 63 5 ls (.int 1 :: st) σ Q := am_r_iconst d63_4 (by decide)
theorem r63_5 {p : Nat} {i : Int32} : am_Rn L xs d 63 5 ls (.int i :: .ref p :: st) σ Q = am_ar2 σ p i (fun q => am_Rn L xs d 63 6 ls (.ref q :: st) σ Q) := am_r_aaload d63_5
theorem r63_6  : am_Rn L xs d 63 6 ls st σ Q = am_li ls 1 (fun x => am_Rn L xs d 63 7 ls (.int x :: st) σ Q) := am_r_iload_n d63_6
theorem r63_7 {p : Nat} {i : Int32} : am_Rn L xs d 63 7 ls (.int i :: .ref p :: st) σ Q = am_ai 0 σ p i (fun x => am_Rn L xs d 63 8 ls (.int x :: st) σ Q) := am_r_iaload d63_7
theorem r63_8 {x : Int32} : am_Rn L xs d 63 8 ls (.int x :: st) σ Q = (3 < ls.length ∧ am_Rn L xs d 63 9 (ls.set 3 (.int x)) st σ Q) := am_r_istore_n d63_8
theorem r63_9  : am_Rn L xs d 63 9 ls st σ Q = am_la ls 0 (fun x => am_Rn L xs d 63 10 ls (x :: st) σ Q) := am_r_aload_n d63_9
theorem r63_10 {p : Nat} : am_Rn L xs d 63 10 ls (.ref p :: st) σ Q = am_fd σ p 2 0 (fun v => am_Rn L xs d 63 13 ls (v :: st) σ Q) := am_r_getfield d63_10 rfl
theorem r63_13  : am_Rn L xs d 63 13 ls st σ Q = am_Rn L xs d 63 14 ls (.int 0 :: st) σ Q := am_r_iconst d63_13 (by decide)
theorem r63_14 {p : Nat} {i : Int32} : am_Rn L xs d 63 14 ls (.int i :: .ref p :: st) σ Q = am_ar2 σ p i (fun q => am_Rn L xs d 63 15 ls (.ref q :: st) σ Q) := am_r_aaload d63_14
theorem r63_15  : am_Rn L xs d 63 15 ls st σ Q = am_li ls 1 (fun x => am_Rn L xs d 63 16 ls (.int x :: st) σ Q) := am_r_iload_n d63_15
theorem r63_16 {p : Nat} {i : Int32} : am_Rn L xs d 63 16 ls (.int i :: .ref p :: st) σ Q = am_ai 0 σ p i (fun x => am_Rn L xs d 63 17 ls (.int x :: st) σ Q) := am_r_iaload d63_16
theorem r63_44  : am_Rn L xs d 63 44 ls st σ Q = am_la ls 2 (fun x => am_Rn L xs d 63 45 ls (x :: st) σ Q) := am_r_aload_n d63_44
theorem r63_45  : am_Rn L xs d 63 45 ls st σ Q = am_li ls 3 (fun x => am_Rn L xs d 63 46 ls (.int x :: st) σ Q) := am_r_iload_n d63_45
theorem r63_46  : am_Rn L xs d 63 46 ls st σ Q = am_la ls 0 (fun x => am_Rn L xs d 63 47 ls (x :: st) σ Q) := am_r_aload_n d63_46
theorem r63_47 {p : Nat} : am_Rn L xs d 63 47 ls (.ref p :: st) σ Q = am_fd σ p 2 0 (fun v => am_Rn L xs d 63 50 ls (v :: st) σ Q) := am_r_getfield d63_47 rfl
theorem r63_50  : am_Rn L xs d 63 50 ls st σ Q = am_Rn L xs d 63 51 ls (.int 4 :: st) σ Q := am_r_iconst d63_50 (by decide)
theorem r63_51 {p : Nat} {i : Int32} : am_Rn L xs d 63 51 ls (.int i :: .ref p :: st) σ Q = am_ar2 σ p i (fun q => am_Rn L xs d 63 52 ls (.ref q :: st) σ Q) := am_r_aaload d63_51
theorem r63_52  : am_Rn L xs d 63 52 ls st σ Q = am_li ls 1 (fun x => am_Rn L xs d 63 53 ls (.int x :: st) σ Q) := am_r_iload_n d63_52
theorem r63_53 {p : Nat} {i : Int32} : am_Rn L xs d 63 53 ls (.int i :: .ref p :: st) σ Q = am_ai 0 σ p i (fun x => am_Rn L xs d 63 54 ls (.int x :: st) σ Q) := am_r_iaload d63_53
theorem r63_54  : am_Rn L xs d 63 54 ls st σ Q = am_la ls 0 (fun x => am_Rn L xs d 63 55 ls (x :: st) σ Q) := am_r_aload_n d63_54
theorem r63_55 {p : Nat} : am_Rn L xs d 63 55 ls (.ref p :: st) σ Q = am_fd σ p 2 0 (fun v => am_Rn L xs d 63 58 ls (v :: st) σ Q) := am_r_getfield d63_55 rfl
theorem r63_58  : am_Rn L xs d 63 58 ls st σ Q = am_Rn L xs d 63 59 ls (.int 5 :: st) σ Q := am_r_iconst d63_58 (by decide)
theorem r63_59 {p : Nat} {i : Int32} : am_Rn L xs d 63 59 ls (.int i :: .ref p :: st) σ Q = am_ar2 σ p i (fun q => am_Rn L xs d 63 60 ls (.ref q :: st) σ Q) := am_r_aaload d63_59
theorem r63_60  : am_Rn L xs d 63 60 ls st σ Q = am_li ls 1 (fun x => am_Rn L xs d 63 61 ls (.int x :: st) σ Q) := am_r_iload_n d63_60
theorem r63_61 {p : Nat} {i : Int32} : am_Rn L xs d 63 61 ls (.int i :: .ref p :: st) σ Q = am_ai 0 σ p i (fun x => am_Rn L xs d 63 62 ls (.int x :: st) σ Q) := am_r_iaload d63_61
theorem r63_62 {a1 a2 a3 : Value} {p : Nat} : am_Rn L xs (d + 1) 63 62 ls (a3 :: a2 :: a1 :: .ref p :: st) σ Q = ((am_oc σ p = 1 ∧ st.length ≤ 4 ∧ am_ok a1 = true ∧ am_ok a2 = true ∧ am_ok a3 = true) ∧ am_Call L xs d 12 [.ref p, a1, a2, a3] σ (fun r σ1 => am_Rn L xs (d + 1) 63 65 ls (r.toList ++ st) σ1 Q)) := am_R_virtual3 d63_62 rfl ⟨by decide, rfl⟩ rfl rfl (by decide)
theorem r63_65  : am_Rn L xs d 63 65 ls st σ Q = am_la ls 2 (fun x => am_Rn L xs d 63 66 ls (x :: st) σ Q) := am_r_aload_n d63_65
theorem r63_66  : am_Rn L xs d 63 66 ls st σ Q = am_li ls 3 (fun x => am_Rn L xs d 63 67 ls (.int x :: st) σ Q) := am_r_iload_n d63_66
theorem r63_67  : am_Rn L xs d 63 67 ls st σ Q = am_la ls 0 (fun x => am_Rn L xs d 63 68 ls (x :: st) σ Q) := am_r_aload_n d63_67
theorem r63_68 {p : Nat} : am_Rn L xs d 63 68 ls (.ref p :: st) σ Q = am_fd σ p 2 0 (fun v => am_Rn L xs d 63 71 ls (v :: st) σ Q) := am_r_getfield d63_68 rfl
theorem r63_71  : am_Rn L xs d 63 71 ls st σ Q = am_Rn L xs d 63 72 ls (.int 2 :: st) σ Q := am_r_iconst d63_71 (by decide)
theorem r63_72 {p : Nat} {i : Int32} : am_Rn L xs d 63 72 ls (.int i :: .ref p :: st) σ Q = am_ar2 σ p i (fun q => am_Rn L xs d 63 73 ls (.ref q :: st) σ Q) := am_r_aaload d63_72
theorem r63_73  : am_Rn L xs d 63 73 ls st σ Q = am_li ls 1 (fun x => am_Rn L xs d 63 74 ls (.int x :: st) σ Q) := am_r_iload_n d63_73
theorem r63_74 {p : Nat} {i : Int32} : am_Rn L xs d 63 74 ls (.int i :: .ref p :: st) σ Q = am_ai 0 σ p i (fun x => am_Rn L xs d 63 75 ls (.int x :: st) σ Q) := am_r_iaload d63_74
theorem r63_75  : am_Rn L xs d 63 75 ls st σ Q = am_la ls 0 (fun x => am_Rn L xs d 63 76 ls (x :: st) σ Q) := am_r_aload_n d63_75
theorem r63_76 {p : Nat} : am_Rn L xs d 63 76 ls (.ref p :: st) σ Q = am_fd σ p 2 0 (fun v => am_Rn L xs d 63 79 ls (v :: st) σ Q) := am_r_getfield d63_76 rfl
theorem r63_79  : am_Rn L xs d 63 79 ls st σ Q = am_Rn L xs d 63 80 ls (.int 3 :: st) σ Q := am_r_iconst d63_79 (by decide)
theorem r63_80 {p : Nat} {i : Int32} : am_Rn L xs d 63 80 ls (.int i :: .ref p :: st) σ Q = am_ar2 σ p i (fun q => am_Rn L xs d 63 81 ls (.ref q :: st) σ Q) := am_r_aaload d63_80
theorem r63_81  : am_Rn L xs d 63 81 ls st σ Q = am_li ls 1 (fun x => am_Rn L xs d 63 82 ls (.int x :: st) σ Q) := am_r_iload_n d63_81
theorem r63_82 {p : Nat} {i : Int32} : am_Rn L xs d 63 82 ls (.int i :: .ref p :: st) σ Q = am_ai 0 σ p i (fun x => am_Rn L xs d 63 83 ls (.int x :: st) σ Q) := am_r_iaload d63_82
theorem r63_83 {a1 a2 a3 : Value} {p : Nat} : am_Rn L xs (d + 1) 63 83 ls (a3 :: a2 :: a1 :: .ref p :: st) σ Q = ((am_oc σ p = 1 ∧ st.length ≤ 4 ∧ am_ok a1 = true ∧ am_ok a2 = true ∧ am_ok a3 = true) ∧ am_Call L xs d 13 [.ref p, a1, a2, a3] σ (fun r σ1 => am_Rn L xs (d + 1) 63 86 ls (r.toList ++ st) σ1 Q)) := am_R_virtual3 d63_83 rfl ⟨by decide, rfl⟩ rfl rfl (by decide)
theorem r63_86  : am_Rn L xs d 63 86 ls st σ Q = am_Rn L xs d 63 139 ls st σ Q := am_r_goto d63_86 (by decide)
theorem r63_89  : am_Rn L xs d 63 89 ls st σ Q = am_la ls 2 (fun x => am_Rn L xs d 63 90 ls (x :: st) σ Q) := am_r_aload_n d63_89
theorem r63_90  : am_Rn L xs d 63 90 ls st σ Q = am_li ls 3 (fun x => am_Rn L xs d 63 91 ls (.int x :: st) σ Q) := am_r_iload_n d63_90
theorem r63_91  : am_Rn L xs d 63 91 ls st σ Q = am_la ls 0 (fun x => am_Rn L xs d 63 92 ls (x :: st) σ Q) := am_r_aload_n d63_91
theorem r63_92 {p : Nat} : am_Rn L xs d 63 92 ls (.ref p :: st) σ Q = am_fd σ p 2 0 (fun v => am_Rn L xs d 63 95 ls (v :: st) σ Q) := am_r_getfield d63_92 rfl
theorem r63_95  : am_Rn L xs d 63 95 ls st σ Q = am_Rn L xs d 63 96 ls (.int 5 :: st) σ Q := am_r_iconst d63_95 (by decide)
theorem r63_96 {p : Nat} {i : Int32} : am_Rn L xs d 63 96 ls (.int i :: .ref p :: st) σ Q = am_ar2 σ p i (fun q => am_Rn L xs d 63 97 ls (.ref q :: st) σ Q) := am_r_aaload d63_96
theorem r63_97  : am_Rn L xs d 63 97 ls st σ Q = am_li ls 1 (fun x => am_Rn L xs d 63 98 ls (.int x :: st) σ Q) := am_r_iload_n d63_97
theorem r63_98 {p : Nat} {i : Int32} : am_Rn L xs d 63 98 ls (.int i :: .ref p :: st) σ Q = am_ai 0 σ p i (fun x => am_Rn L xs d 63 99 ls (.int x :: st) σ Q) := am_r_iaload d63_98
theorem r63_99 {a1 a2 : Value} {p : Nat} : am_Rn L xs (d + 1) 63 99 ls (a2 :: a1 :: .ref p :: st) σ Q = ((am_oc σ p = 1 ∧ st.length ≤ 4 ∧ am_ok a1 = true ∧ am_ok a2 = true) ∧ am_Call L xs d 64 [.ref p, a1, a2] σ (fun r σ1 => am_Rn L xs (d + 1) 63 102 ls (r.toList ++ st) σ1 Q)) := am_R_virtual2 d63_99 rfl ⟨by decide, rfl⟩ rfl rfl (by decide)
theorem r63_102  : am_Rn L xs d 63 102 ls st σ Q = am_Rn L xs d 63 139 ls st σ Q := am_r_goto d63_102 (by decide)
theorem r63_105  : am_Rn L xs d 63 105 ls st σ Q = am_la ls 2 (fun x => am_Rn L xs d 63 106 ls (x :: st) σ Q) := am_r_aload_n d63_105
theorem r63_106  : am_Rn L xs d 63 106 ls st σ Q = am_li ls 3 (fun x => am_Rn L xs d 63 107 ls (.int x :: st) σ Q) := am_r_iload_n d63_106
theorem r63_107 {a1 : Value} {p : Nat} : am_Rn L xs (d + 1) 63 107 ls (a1 :: .ref p :: st) σ Q = ((am_oc σ p = 1 ∧ st.length ≤ 4 ∧ am_ok a1 = true) ∧ am_Call L xs d 65 [.ref p, a1] σ (fun r σ1 => am_Rn L xs (d + 1) 63 110 ls (r.toList ++ st) σ1 Q)) := am_R_virtual1 d63_107 rfl ⟨by decide, rfl⟩ rfl rfl (by decide)
theorem r63_110  : am_Rn L xs d 63 110 ls st σ Q = am_la ls 2 (fun x => am_Rn L xs d 63 111 ls (x :: st) σ Q) := am_r_aload_n d63_110
theorem r63_111  : am_Rn L xs d 63 111 ls st σ Q = am_li ls 3 (fun x => am_Rn L xs d 63 112 ls (.int x :: st) σ Q) := am_r_iload_n d63_111
theorem r63_112  : am_Rn L xs d 63 112 ls st σ Q = am_la ls 0 (fun x => am_Rn L xs d 63 113 ls (x :: st) σ Q) := am_r_aload_n d63_112
theorem r63_113 {p : Nat} : am_Rn L xs d 63 113 ls (.ref p :: st) σ Q = am_fd σ p 2 0 (fun v => am_Rn L xs d 63 116 ls (v :: st) σ Q) := am_r_getfield d63_113 rfl
theorem r63_116  : am_Rn L xs d 63 116 ls st σ Q = am_Rn L xs d 63 117 ls (.int 2 :: st) σ Q := am_r_iconst d63_116 (by decide)
theorem r63_117 {p : Nat} {i : Int32} : am_Rn L xs d 63 117 ls (.int i :: .ref p :: st) σ Q = am_ar2 σ p i (fun q => am_Rn L xs d 63 118 ls (.ref q :: st) σ Q) := am_r_aaload d63_117
theorem r63_118  : am_Rn L xs d 63 118 ls st σ Q = am_li ls 1 (fun x => am_Rn L xs d 63 119 ls (.int x :: st) σ Q) := am_r_iload_n d63_118
theorem r63_119 {p : Nat} {i : Int32} : am_Rn L xs d 63 119 ls (.int i :: .ref p :: st) σ Q = am_ai 0 σ p i (fun x => am_Rn L xs d 63 120 ls (.int x :: st) σ Q) := am_r_iaload d63_119
theorem r63_120  : am_Rn L xs d 63 120 ls st σ Q = am_la ls 0 (fun x => am_Rn L xs d 63 121 ls (x :: st) σ Q) := am_r_aload_n d63_120
theorem r63_121 {p : Nat} : am_Rn L xs d 63 121 ls (.ref p :: st) σ Q = am_fd σ p 2 0 (fun v => am_Rn L xs d 63 124 ls (v :: st) σ Q) := am_r_getfield d63_121 rfl
theorem r63_124  : am_Rn L xs d 63 124 ls st σ Q = am_Rn L xs d 63 125 ls (.int 3 :: st) σ Q := am_r_iconst d63_124 (by decide)
theorem r63_125 {p : Nat} {i : Int32} : am_Rn L xs d 63 125 ls (.int i :: .ref p :: st) σ Q = am_ar2 σ p i (fun q => am_Rn L xs d 63 126 ls (.ref q :: st) σ Q) := am_r_aaload d63_125
theorem r63_126  : am_Rn L xs d 63 126 ls st σ Q = am_li ls 1 (fun x => am_Rn L xs d 63 127 ls (.int x :: st) σ Q) := am_r_iload_n d63_126
theorem r63_127 {p : Nat} {i : Int32} : am_Rn L xs d 63 127 ls (.int i :: .ref p :: st) σ Q = am_ai 0 σ p i (fun x => am_Rn L xs d 63 128 ls (.int x :: st) σ Q) := am_r_iaload d63_127
theorem r63_128 {a1 a2 a3 : Value} {p : Nat} : am_Rn L xs (d + 1) 63 128 ls (a3 :: a2 :: a1 :: .ref p :: st) σ Q = ((am_oc σ p = 1 ∧ st.length ≤ 4 ∧ am_ok a1 = true ∧ am_ok a2 = true ∧ am_ok a3 = true) ∧ am_Call L xs d 13 [.ref p, a1, a2, a3] σ (fun r σ1 => am_Rn L xs (d + 1) 63 131 ls (r.toList ++ st) σ1 Q)) := am_R_virtual3 d63_128 rfl ⟨by decide, rfl⟩ rfl rfl (by decide)
theorem r63_131  : am_Rn L xs d 63 131 ls st σ Q = am_Rn L xs d 63 139 ls st σ Q := am_r_goto d63_131 (by decide)
theorem r63_134  : am_Rn L xs d 63 134 ls st σ Q = am_la ls 2 (fun x => am_Rn L xs d 63 135 ls (x :: st) σ Q) := am_r_aload_n d63_134
theorem r63_135  : am_Rn L xs d 63 135 ls st σ Q = am_li ls 3 (fun x => am_Rn L xs d 63 136 ls (.int x :: st) σ Q) := am_r_iload_n d63_135
theorem r63_136 {a1 : Value} {p : Nat} : am_Rn L xs (d + 1) 63 136 ls (a1 :: .ref p :: st) σ Q = ((am_oc σ p = 1 ∧ st.length ≤ 4 ∧ am_ok a1 = true) ∧ am_Call L xs d 65 [.ref p, a1] σ (fun r σ1 => am_Rn L xs (d + 1) 63 139 ls (r.toList ++ st) σ1 Q)) := am_R_virtual1 d63_136 rfl ⟨by decide, rfl⟩ rfl rfl (by decide)
theorem r63_139  : am_Rn L xs d 63 139 ls [] σ Q = Q none σ := am_r_return d63_139 rfl
theorem d77_0 : decode (pg_code 77) 0 = .ok (.iconst 0, 1) := by decide +kernel
theorem d77_1 : decode (pg_code 77) 1 = .ok (.istore_n 3, 1) := by decide +kernel
theorem d77_2 : decode (pg_code 77) 2 = .ok (.iload_n 3, 1) := by decide +kernel
theorem d77_3 : decode (pg_code 77) 3 = .ok (.aload_n 0, 1) := by decide +kernel
theorem d77_4 : decode (pg_code 77) 4 = .ok (.getfield 16, 3) := by decide +kernel
theorem d77_7 : decode (pg_code 77) 7 = .ok (.if_icmp .ge 35, 3) := by decide +kernel
theorem d77_10 : decode (pg_code 77) 10 = .ok (.aload_n 0, 1) := by decide +kernel
theorem d77_11 : decode (pg_code 77) 11 = .ok (.getfield 11, 3) := by decide +kernel
theorem d77_14 : decode (pg_code 77) 14 = .ok (.iconst 0, 1) := by decide +kernel
theorem d77_15 : decode (pg_code 77) 15 = .ok (.aaload, 1) := by decide +kernel
theorem d77_16 : decode (pg_code 77) 16 = .ok (.iload_n 3, 1) := by decide +kernel
theorem d77_17 : decode (pg_code 77) 17 = .ok (.iaload, 1) := by decide +kernel
theorem d77_18 : decode (pg_code 77) 18 = .ok (.iload_n 1, 1) := by decide +kernel
theorem d77_19 : decode (pg_code 77) 19 = .ok (.if_icmp .ne 17, 3) := by decide +kernel
theorem d77_22 : decode (pg_code 77) 22 = .ok (.aload_n 0, 1) := by decide +kernel
theorem d77_23 : decode (pg_code 77) 23 = .ok (.getfield 11, 3) := by decide +kernel
theorem d77_26 : decode (pg_code 77) 26 = .ok (.iconst 1, 1) := by decide +kernel
theorem d77_27 : decode (pg_code 77) 27 = .ok (.aaload, 1) := by decide +kernel
theorem d77_28 : decode (pg_code 77) 28 = .ok (.iload_n 3, 1) := by decide +kernel
theorem d77_29 : decode (pg_code 77) 29 = .ok (.iaload, 1) := by decide +kernel
theorem d77_30 : decode (pg_code 77) 30 = .ok (.iload_n 2, 1) := by decide +kernel
theorem d77_31 : decode (pg_code 77) 31 = .ok (.if_icmp .ne 5, 3) := by decide +kernel
theorem d77_34 : decode (pg_code 77) 34 = .ok (.iload_n 3, 1) := by decide +kernel
theorem d77_35 : decode (pg_code 77) 35 = .ok (.ireturn, 1) := by decide +kernel
theorem d77_36 : decode (pg_code 77) 36 = .ok (.iinc 3 1, 3) := by decide +kernel
theorem d77_39 : decode (pg_code 77) 39 = .ok (.goto (-37), 3) := by decide +kernel
theorem d77_42 : decode (pg_code 77) 42 = .ok (.iconst (-1), 1) := by decide +kernel
theorem d77_43 : decode (pg_code 77) 43 = .ok (.ireturn, 1) := by decide +kernel
theorem e77 {b1 b2 b3 : Value} : am_Call L xs d 77 [b1, b2, b3] σ Q = am_Rn L xs d 77 0 [b1, b2, b3, .retAddr 0] [] σ Q := rfl
theorem r77_0  : am_Rn L xs d 77 0 ls st σ Q = am_Rn L xs d 77 1 ls (.int 0 :: st) σ Q := am_r_iconst d77_0 (by decide)
theorem r77_1 {x : Int32} : am_Rn L xs d 77 1 ls (.int x :: st) σ Q = (3 < ls.length ∧ am_Rn L xs d 77 2 (ls.set 3 (.int x)) st σ Q) := am_r_istore_n d77_1
theorem r77_2  : am_Rn L xs d 77 2 ls st σ Q = am_li ls 3 (fun x => am_Rn L xs d 77 3 ls (.int x :: st) σ Q) := am_r_iload_n d77_2
theorem r77_3  : am_Rn L xs d 77 3 ls st σ Q = am_la ls 0 (fun x => am_Rn L xs d 77 4 ls (x :: st) σ Q) := am_r_aload_n d77_3
theorem r77_4 {p : Nat} : am_Rn L xs d 77 4 ls (.ref p :: st) σ Q = am_fd σ p 2 1 (fun v => am_Rn L xs d 77 7 ls (v :: st) σ Q) := am_r_getfield d77_4 rfl
theorem r77_7 {a b : Int32} : am_Rn L xs d 77 7 ls (.int b :: .int a :: st) σ Q = if b ≤ a then am_Rn L xs d 77 42 ls st σ Q else am_Rn L xs d 77 10 ls st σ Q := (am_r_icmp (t := 42) d77_7 (by decide)).trans (am_ite _ _ trivial (by simp only [am_cond, decide_eq_true_eq]))
theorem r77_10  : am_Rn L xs d 77 10 ls st σ Q = am_la ls 0 (fun x => am_Rn L xs d 77 11 ls (x :: st) σ Q) := am_r_aload_n d77_10
theorem r77_11 {p : Nat} : am_Rn L xs d 77 11 ls (.ref p :: st) σ Q = am_fd σ p 2 0 (fun v => am_Rn L xs d 77 14 ls (v :: st) σ Q) := am_r_getfield d77_11 rfl
theorem r77_14  : am_Rn L xs d 77 14 ls st σ Q = am_Rn L xs d 77 15 ls (.int 0 :: st) σ Q := am_r_iconst d77_14 (by decide)
theorem r77_15 {p : Nat} {i : Int32} : am_Rn L xs d 77 15 ls (.int i :: .ref p :: st) σ Q = am_ar2 σ p i (fun q => am_Rn L xs d 77 16 ls (.ref q :: st) σ Q) := am_r_aaload d77_15
theorem r77_16  : am_Rn L xs d 77 16 ls st σ Q = am_li ls 3 (fun x => am_Rn L xs d 77 17 ls (.int x :: st) σ Q) := am_r_iload_n d77_16
theorem r77_17 {p : Nat} {i : Int32} : am_Rn L xs d 77 17 ls (.int i :: .ref p :: st) σ Q = am_ai 0 σ p i (fun x => am_Rn L xs d 77 18 ls (.int x :: st) σ Q) := am_r_iaload d77_17
theorem r77_18  : am_Rn L xs d 77 18 ls st σ Q = am_li ls 1 (fun x => am_Rn L xs d 77 19 ls (.int x :: st) σ Q) := am_r_iload_n d77_18
theorem r77_19 {a b : Int32} : am_Rn L xs d 77 19 ls (.int b :: .int a :: st) σ Q = if ¬ a = b then am_Rn L xs d 77 36 ls st σ Q else am_Rn L xs d 77 22 ls st σ Q := (am_r_icmp (t := 36) d77_19 (by decide)).trans (am_ite _ _ trivial (by simp only [am_cond, decide_eq_true_eq]))
theorem r77_22  : am_Rn L xs d 77 22 ls st σ Q = am_la ls 0 (fun x => am_Rn L xs d 77 23 ls (x :: st) σ Q) := am_r_aload_n d77_22
theorem r77_23 {p : Nat} : am_Rn L xs d 77 23 ls (.ref p :: st) σ Q = am_fd σ p 2 0 (fun v => am_Rn L xs d 77 26 ls (v :: st) σ Q) := am_r_getfield d77_23 rfl
theorem r77_26  : am_Rn L xs d 77 26 ls st σ Q = am_Rn L xs d 77 27 ls (.int 1 :: st) σ Q := am_r_iconst d77_26 (by decide)
theorem r77_27 {p : Nat} {i : Int32} : am_Rn L xs d 77 27 ls (.int i :: .ref p :: st) σ Q = am_ar2 σ p i (fun q => am_Rn L xs d 77 28 ls (.ref q :: st) σ Q) := am_r_aaload d77_27
theorem r77_28  : am_Rn L xs d 77 28 ls st σ Q = am_li ls 3 (fun x => am_Rn L xs d 77 29 ls (.int x :: st) σ Q) := am_r_iload_n d77_28
theorem r77_29 {p : Nat} {i : Int32} : am_Rn L xs d 77 29 ls (.int i :: .ref p :: st) σ Q = am_ai 0 σ p i (fun x => am_Rn L xs d 77 30 ls (.int x :: st) σ Q) := am_r_iaload d77_29
theorem r77_30  : am_Rn L xs d 77 30 ls st σ Q = am_li ls 2 (fun x => am_Rn L xs d 77 31 ls (.int x :: st) σ Q) := am_r_iload_n d77_30
theorem r77_31 {a b : Int32} : am_Rn L xs d 77 31 ls (.int b :: .int a :: st) σ Q = if ¬ a = b then am_Rn L xs d 77 36 ls st σ Q else am_Rn L xs d 77 34 ls st σ Q := (am_r_icmp (t := 36) d77_31 (by decide)).trans (am_ite _ _ trivial (by simp only [am_cond, decide_eq_true_eq]))
theorem r77_34  : am_Rn L xs d 77 34 ls st σ Q = am_li ls 3 (fun x => am_Rn L xs d 77 35 ls (.int x :: st) σ Q) := am_r_iload_n d77_34
theorem r77_35 {v : Int32} : am_Rn L xs d 77 35 ls [.int v] σ Q = Q (some (.int v)) σ := am_r_ireturn d77_35 rfl
theorem r77_36  : am_Rn L xs d 77 36 ls st σ Q = am_li ls 3 (fun x => am_Rn L xs d 77 39 (ls.set 3 (.int (x + 1))) st σ Q) := am_r_iinc d77_36 (by decide)
theorem r77_39  : am_Rn L xs d 77 39 ls st σ Q = am_Rn L xs d 77 2 ls st σ Q := am_r_goto d77_39 (by decide)
theorem r77_42  : am_Rn L xs d 77 42 ls st σ Q = am_Rn L xs d 77 43 ls (.int (-1) :: st) σ Q := am_r_iconst d77_42 (by decide)
theorem r77_43 {v : Int32} : am_Rn L xs d 77 43 ls [.int v] σ Q = Q (some (.int v)) σ := am_r_ireturn d77_43 rfl
end
