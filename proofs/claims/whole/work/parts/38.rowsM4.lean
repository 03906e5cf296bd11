/-! Rows of the program's instructions, written by program (wip/gen/gen_rows.py) -/
section
variable {L : Nat} {xs : Nat → Int32} {d : Nat} {ls st : List Value} {σ : am_S} {Q : Option Value → am_S → Prop}
theorem d114_0 : decode (pg_code 114) 0 = .ok (.aload_n 0, 1) := by decide +kernel
theorem d114_1 : decode (pg_code 114) 1 = .ok (.getfield 62, 3) := by decide +kernel
theorem d114_4 : decode (pg_code 114) 4 = .ok (.iload_n 1, 1) := by decide +kernel
theorem d114_5 : decode (pg_code 114) 5 = .ok (.iaload, 1) := by decide +kernel
theorem d114_6 : decode (pg_code 114) 6 = .ok (.ifCond .ne 26, 3) := by decide +kernel
theorem d114_9 : decode (pg_code 114) 9 = .ok (.aload_n 0, 1) := by decide +kernel
theorem d114_10 : decode (pg_code 114) 10 = .ok (.iload_n 2, 1) := by decide +kernel
theorem d114_11 : decode (pg_code 114) 11 = .ok (.iload_n 3, 1) := by decide +kernel
theorem d114_12 : decode (pg_code 114) 12 = .ok (.iload 4, 2) := by decide +kernel
theorem d114_14 : decode (pg_code 114) 14 = .ok (.aload_n 0, 1) := by decide +kernel
theorem d114_15 : decode (pg_code 114) 15 = .ok (.getfield 74, 3) := by decide +kernel
theorem d114_18 : decode (pg_code 114) 18 = .ok (.iload_n 1, 1) := by decide +kernel
theorem d114_19 : decode (pg_code 114) 19 = .ok (.iaload, 1) := by decide +kernel
theorem d114_20 : decode (pg_code 114) 20 = .ok (.aload_n 0, 1) := by decide +kernel
theorem d114_21 : decode (pg_code 114) 21 = .ok (.getfield 77, 3) := by decide +kernel
theorem d114_24 : decode (pg_code 114) 24 = .ok (.iload_n 1, 1) := by decide +kernel
theorem d114_25 : decode (pg_code 114) 25 = .ok (.iaload, 1) := by decide +kernel
theorem d114_26 : decode (pg_code 114) 26 = .ok (.invokevirtual 204, 3) := by decide +kernel
theorem d114_29 : decode (pg_code 114) 29 = .ok (.goto 61, 3) := by decide +kernel
theorem d114_32 : decode (pg_code 114) 32 = .ok (.aload_n 0, 1) := by decide +kernel
theorem d114_33 : decode (pg_code 114) 33 = .ok (.getfield 62, 3) := by decide +kernel
theorem d114_36 : decode (pg_code 114) 36 = .ok (.iload_n 1, 1) := by decide +kernel
theorem d114_37 : decode (pg_code 114) 37 = .ok (.iaload, 1) := by decide +kernel
theorem d114_38 : decode (pg_code 114) 38 = .ok (.iconst 1, 1) := by decide +kernel
theorem d114_39 : decode (pg_code 114) 39 = .ok (.if_icmp .ne 18, 3) := by decide +kernel
theorem d114_42 : decode (pg_code 114) 42 = .ok (.aload_n 0, 1) := by decide +kernel
theorem d114_43 : decode (pg_code 114) 43 = .ok (.getfield 95, 3) := by decide +kernel
theorem d114_46 : decode (pg_code 114) 46 = .ok (.iload_n 2, 1) := by decide +kernel
theorem d114_47 : decode (pg_code 114) 47 = .ok (.aload_n 0, 1) := by decide +kernel
theorem d114_48 : decode (pg_code 114) 48 = .ok (.getfield 77, 3) := by decide +kernel
theorem d114_51 : decode (pg_code 114) 51 = .ok (.iload_n 1, 1) := by decide +kernel
theorem d114_52 : decode (pg_code 114) 52 = .ok (.iaload, 1) := by decide +kernel
theorem d114_53 : decode (pg_code 114) 53 = .ok (.iastore, 1) := by decide +kernel
theorem d114_54 : decode (pg_code 114) 54 = .ok (.goto 36, 3) := by decide +kernel
theorem d114_57 : decode (pg_code 114) 57 = .ok (.aload_n 0, 1) := by decide +kernel
theorem d114_58 : decode (pg_code 114) 58 = .ok (.iload_n 2, 1) := by decide +kernel
theorem d114_59 : decode (pg_code 114) 59 = .ok (.invokevirtual 208, 3) := by decide +kernel
theorem d114_62 : decode (pg_code 114) 62 = .ok (.aload_n 0, 1) := by decide +kernel
theorem d114_63 : decode (pg_code 114) 63 = .ok (.getfield 62, 3) := by decide +kernel
theorem d114_66 : decode (pg_code 114) 66 = .ok (.iload_n 1, 1) := by decide +kernel
theorem d114_67 : decode (pg_code 114) 67 = .ok (.iaload, 1) := by decide +kernel
theorem d114_68 : decode (pg_code 114) 68 = .ok (.iconst 2, 1) := by decide +kernel
theorem d114_69 : decode (pg_code 114) 69 = .ok (.if_icmp .ne 14, 3) := by decide +kernel
theorem d114_72 : decode (pg_code 114) 72 = .ok (.aload_n 0, 1) := by decide +kernel
theorem d114_73 : decode (pg_code 114) 73 = .ok (.iload_n 2, 1) := by decide +kernel
theorem d114_74 : decode (pg_code 114) 74 = .ok (.iload_n 3, 1) := by decide +kernel
theorem d114_75 : decode (pg_code 114) 75 = .ok (.iload 4, 2) := by decide +kernel
theorem d114_77 : decode (pg_code 114) 77 = .ok (.invokevirtual 200, 3) := by decide +kernel
theorem d114_80 : decode (pg_code 114) 80 = .ok (.goto 10, 3) := by decide +kernel
theorem d114_83 : decode (pg_code 114) 83 = .ok (.aload_n 0, 1) := by decide +kernel
theorem d114_84 : decode (pg_code 114) 84 = .ok (.getfield 86, 3) := by decide +kernel
theorem d114_87 : decode (pg_code 114) 87 = .ok (.iload_n 2, 1) := by decide +kernel
theorem d114_88 : decode (pg_code 114) 88 = .ok (.iconst 0, 1) := by decide +kernel
theorem d114_89 : decode (pg_code 114) 89 = .ok (.bastore, 1) := by decide +kernel
theorem d114_90 : decode (pg_code 114) 90 = .ok (.return_, 1) := by decide +kernel
theorem e114 {b1 b2 b3 b4 b5 : Value} : am_Call L xs d 114 [b1, b2, b3, b4, b5] σ Q = am_Rn L xs d 114 0 [b1, b2, b3, b4, b5] [] σ Q := rfl
theorem r114_0  : am_Rn L xs d 114 0 ls st σ Q = am_la ls 0 (fun x => am_Rn L xs d 114 1 ls (x :: st) σ Q) := am_r_aload_n d114_0
theorem r114_1 {p : Nat} : am_Rn L xs d 114 1 ls (.ref p :: st) σ Q = am_fd σ p 6 19 (fun v => am_Rn L xs d 114 4 ls (v :: st) σ Q) := am_r_getfield d114_1 rfl
theorem r114_4  : am_Rn L xs d 114 4 ls st σ Q = am_li ls 1 (fun x => am_Rn L xs d 114 5 ls (.int x :: st) σ Q) := am_r_iload_n d114_4
theorem r114_5 {p : Nat} {i : Int32} : am_Rn L xs d 114 5 ls (.int i :: .ref p :: st) σ Q = am_ai 0 σ p i (fun x => am_Rn L xs d 114 6 ls (.int x :: st) σ Q) := am_r_iaload d114_5
theorem r114_6 {a : Int32} : am_Rn L xs d 114 6 ls (.int a :: st) σ Q = if ¬ a = 0 then am_Rn L xs d 114 32 ls st σ Q else am_Rn L xs d 114 9 ls st σ Q := (am_r_if (t := 32) d114_6 (by decide)).trans (am_ite _ _ trivial (by simp only [am_cond, decide_eq_true_eq]))
theorem r114_9  : am_Rn L xs d 114 9 ls st σ Q = am_la ls 0 (fun x => am_Rn L xs d 114 10 ls (x :: st) σ Q) := am_r_aload_n d114_9
theorem r114_10  : am_Rn L xs d 114 10 ls st σ Q = am_li ls 2 (fun x => am_Rn L xs d 114 11 ls (.int x :: st) σ Q) := am_r_iload_n d114_10
theorem r114_11  : am_Rn L xs d 114 11 ls st σ Q = am_li ls 3 (fun x => am_Rn L xs d 114 12 ls (.int x :: st) σ Q) := am_r_iload_n d114_11
theorem r114_12  : am_Rn L xs d 114 12 ls st σ Q = am_li ls 4 (fun x => am_Rn L xs d 114 14 ls (.int x :: st) σ Q) := am_r_iload d114_12
theorem r114_14  : am_Rn L xs d 114 14 ls st σ Q = am_la ls 0 (fun x => am_Rn L xs d 114 15 ls (x :: st) σ Q) := am_r_aload_n d114_14
theorem r114_15 {p : Nat} : am_Rn L xs d 114 15 ls (.ref p :: st) σ Q = am_fd σ p 6 23 (fun v => am_Rn L xs d 114 18 ls (v :: st) σ Q) := am_r_getfield d114_15 rfl
theorem r114_18  : am_Rn L xs d 114 18 ls st σ Q = am_li ls 1 (fun x => am_Rn L xs d 114 19 ls (.int x :: st) σ Q) := am_r_iload_n d114_18
theorem r114_19 {p : Nat} {i : Int32} : am_Rn L xs d 114 19 ls (.int i :: .ref p :: st) σ Q = am_ai 0 σ p i (fun x => am_Rn L xs d 114 20 ls (.int x :: st) σ Q) := am_r_iaload d114_19
theorem r114_20  : am_Rn L xs d 114 20 ls st σ Q = am_la ls 0 (fun x => am_Rn L xs d 114 21 ls (x :: st) σ Q) := am_r_aload_n d114_20
theorem r114_21 {p : Nat} : am_Rn L xs d 114 21 ls (.ref p :: st) σ Q = am_fd σ p 6 24 (fun v => am_Rn L xs d 114 24 ls (v :: st) σ Q) := am_r_getfield d114_21 rfl
theorem r114_24  : am_Rn L xs d 114 24 ls st σ Q = am_li ls 1 (fun x => am_Rn L xs d 114 25 ls (.int x :: st) σ Q) := am_r_iload_n d114_24
theorem r114_25 {p : Nat} {i : Int32} : am_Rn L xs d 114 25 ls (.int i :: .ref p :: st) σ Q = am_ai 0 σ p i (fun x => am_Rn L xs d 114 26 ls (.int x :: st) σ Q) := am_r_iaload d114_25
theorem r114_26 {a1 a2 a3 a4 a5 : Value} {p : Nat} : am_Rn L xs (d + 1) 114 26 ls (a5 :: a4 :: a3 :: a2 :: a1 :: .ref p :: st) σ Q = ((am_oc σ p = 6 ∧ st.length ≤ 4 ∧ am_ok a1 = true ∧ am_ok a2 = true ∧ am_ok a3 = true ∧ am_ok a4 = true ∧ am_ok a5 = true) ∧ am_Call L xs d 115 [.ref p, a1, a2, a3, a4, a5] σ (fun r σ1 => am_Rn L xs (d + 1) 114 29 ls (r.toList ++ st) σ1 Q)) := am_R_virtual5 d114_26 rfl ⟨by decide, rfl⟩ rfl rfl (by decide)
theorem r114_29  : am_Rn L xs d 114 29 ls st σ Q = am_Rn L xs d 114 90 ls st σ Q := am_r_goto d114_29 (by decide)
theorem r114_32  : am_Rn L xs d 114 32 ls st σ Q = am_la ls 0 (fun x => am_Rn L xs d 114 33 ls (x :: st) σ Q) := am_r_aload_n d114_32
theorem r114_33 {p : Nat} : am_Rn L xs d 114 33 ls (.ref p :: st) σ Q = am_fd σ p 6 19 (fun v => am_Rn L xs d 114 36 ls (v :: st) σ Q) := am_r_getfield d114_33 rfl
theorem r114_36  : am_Rn L xs d 114 36 ls st σ Q = am_li ls 1 (fun x => am_Rn L xs d 114 37 ls (.int x :: st) σ Q) := am_r_iload_n d114_36
theorem r114_37 {p : Nat} {i : Int32} : am_Rn L xs d 114 37 ls (.int i :: .ref p :: st) σ Q = am_ai 0 σ p i (fun x => am_Rn L xs d 114 38 ls (.int x :: st) σ Q) := am_r_iaload d114_37
theorem r114_38  : am_Rn L xs d 114 38 ls st σ Q = am_Rn L xs d 114 39 ls (.int 1 :: st) σ Q := am_r_iconst d114_38 (by decide)
theorem r114_39 {a b : Int32} : am_Rn L xs d 114 39 ls (.int b :: .int a :: st) σ Q = if ¬ a = b then am_Rn L xs d 114 57 ls st σ Q else am_Rn L xs d 114 42 ls st σ Q := (am_r_icmp (t := 57) d114_39 (by decide)).trans (am_ite _ _ trivial (by simp only [am_cond, decide_eq_true_eq]))
theorem r114_42  : am_Rn L xs d 114 42 ls st σ Q = am_la ls 0 (fun x => am_Rn L xs d 114 43 ls (x :: st) σ Q) := am_r_aload_n d114_42
theorem r114_43 {p : Nat} : am_Rn L xs d 114 43 ls (.ref p :: st) σ Q = am_fd σ p 6 33 (fun v => am_Rn L xs d 114 46 ls (v :: st) σ Q) := am_r_getfield d114_43 rfl
theorem r114_46  : am_Rn L xs d 114 46 ls st σ Q = am_li ls 2 (fun x => am_Rn L xs d 114 47 ls (.int x :: st) σ Q) := am_r_iload_n d114_46
theorem r114_47  : am_Rn L xs d 114 47 ls st σ Q = am_la ls 0 (fun x => am_Rn L xs d 114 48 ls (x :: st) σ Q) := am_r_aload_n d114_47
theorem r114_48 {p : Nat} : am_Rn L xs d 114 48 ls (.ref p :: st) σ Q = am_fd σ p 6 24 (fun v => am_Rn L xs d 114 51 ls (v :: st) σ Q) := am_r_getfield d114_48 rfl
theorem r114_51  : am_Rn L xs d 114 51 ls st σ Q = am_li ls 1 (fun x => am_Rn L xs d 114 52 ls (.int x :: st) σ Q) := am_r_iload_n d114_51
theorem r114_52 {p : Nat} {i : Int32} : am_Rn L xs d 114 52 ls (.int i :: .ref p :: st) σ Q = am_ai 0 σ p i (fun x => am_Rn L xs d 114 53 ls (.int x :: st) σ Q) := am_r_iaload d114_52
theorem r114_53 {p : Nat} {i x : Int32} : am_Rn L xs d 114 53 ls (.int x :: .int i :: .ref p :: st) σ Q = am_wi 0 σ p i x (fun σ1 => am_Rn L xs d 114 54 ls st σ1 Q) := am_r_iastore d114_53
theorem r114_54  : am_Rn L xs d 114 54 ls st σ Q = am_Rn L xs d 114 90 ls st σ Q := am_r_goto d114_54 (by decide)
theorem r114_57  : am_Rn L xs d 114 57 ls st σ Q = am_la ls 0 (fun x => am_Rn L xs d 114 58 ls (x :: st) σ Q) := am_r_aload_n d114_57
theorem r114_58  : am_Rn L xs d 114 58 ls st σ Q = am_li ls 2 (fun x => am_Rn L xs d 114 59 ls (.int x :: st) σ Q) := am_r_iload_n d114_58
theorem r114_59 {a1 : Value} {p : Nat} : am_Rn L xs (d + 1) 114 59 ls (a1 :: .ref p :: st) σ Q = ((am_oc σ p = 6 ∧ st.length ≤ 4 ∧ am_ok a1 = true) ∧ am_Call L xs d 117 [.ref p, a1] σ (fun r σ1 => am_Rn L xs (d + 1) 114 62 ls (r.toList ++ st) σ1 Q)) := am_R_virtual1 d114_59 rfl ⟨by decide, rfl⟩ rfl rfl (by decide)
theorem r114_62  : am_Rn L xs d 114 62 ls st σ Q = am_la ls 0 (fun x => am_Rn L xs d 114 63 ls (x :: st) σ Q) := am_r_aload_n d114_62
theorem r114_63 {p : Nat} : am_Rn L xs d 114 63 ls (.ref p :: st) σ Q = am_fd σ p 6 19 (fun v => am_Rn L xs d 114 66 ls (v :: st) σ Q) := am_r_getfield d114_63 rfl
theorem r114_66  : am_Rn L xs d 114 66 ls st σ Q = am_li ls 1 (fun x => am_Rn L xs d 114 67 ls (.int x :: st) σ Q) := am_r_iload_n d114_66
theorem r114_67 {p : Nat} {i : Int32} : am_Rn L xs d 114 67 ls (.int i :: .ref p :: st) σ Q = am_ai 0 σ p i (fun x => am_Rn L xs d 114 68 ls (.int x :: st) σ Q) := am_r_iaload d114_67
theorem r114_68  : am_Rn L xs d 114 68 ls st σ Q = am_Rn L xs d 114 69 ls (.int 2 :: st) σ Q := am_r_iconst d114_68 (by decide)
theorem r114_69 {a b : Int32} : am_Rn L xs d 114 69 ls (.int b :: .int a :: st) σ Q = if ¬ a = b then am_Rn L xs d 114 83 ls st σ Q else am_Rn L xs d 114 72 ls st σ Q := (am_r_icmp (t := 83) d114_69 (by decide)).trans (am_ite _ _ trivial (by simp only [am_cond, decide_eq_true_eq]))
theorem r114_72  : am_Rn L xs d 114 72 ls st σ Q = am_la ls 0 (fun x => am_Rn L xs d 114 73 ls (x :: st) σ Q) := am_r_aload_n d114_72
theorem r114_73  : am_Rn L xs d 114 73 ls st σ Q = am_li ls 2 (fun x => am_Rn L xs d 114 74 ls (.int x :: st) σ Q) := am_r_iload_n d114_73
theorem r114_74  : am_Rn L xs d 114 74 ls st σ Q = am_li ls 3 (fun x => am_Rn L xs d 114 75 ls (.int x :: st) σ Q) := am_r_iload_n d114_74
theorem r114_75  : am_Rn L xs d 114 75 ls st σ Q = am_li ls 4 (fun x => am_Rn L xs d 114 77 ls (.int x :: st) σ Q) := am_r_iload d114_75
theorem r114_77 {a1 a2 a3 : Value} {p : Nat} : am_Rn L xs (d + 1) 114 77 ls (a3 :: a2 :: a1 :: .ref p :: st) σ Q = ((am_oc σ p = 6 ∧ st.length ≤ 4 ∧ am_ok a1 = true ∧ am_ok a2 = true ∧ am_ok a3 = true) ∧ am_Call L xs d 116 [.ref p, a1, a2, a3] σ (fun r σ1 => am_Rn L xs (d + 1) 114 80 ls (r.toList ++ st) σ1 Q)) := am_R_virtual3 d114_77 rfl ⟨by decide, rfl⟩ rfl rfl (by decide)
theorem r114_80  : am_Rn L xs d 114 80 ls st σ Q = am_Rn L xs d 114 90 ls st σ Q := am_r_goto d114_80 (by decide)
theorem r114_83  : am_Rn L xs d 114 83 ls st σ Q = am_la ls 0 (fun x => am_Rn L xs d 114 84 ls (x :: st) σ Q) := am_r_aload_n d114_83
theorem r114_84 {p : Nat} : am_Rn L xs d 114 84 ls (.ref p :: st) σ Q = am_fd σ p 6 30 (fun v => am_Rn L xs d 114 87 ls (v :: st) σ Q) := am_r_getfield d114_84 rfl
theorem r114_87  : am_Rn L xs d 114 87 ls st σ Q = am_li ls 2 (fun x => am_Rn L xs d 114 88 ls (.int x :: st) σ Q) := am_r_iload_n d114_87
theorem r114_88  : am_Rn L xs d 114 88 ls st σ Q = am_Rn L xs d 114 89 ls (.int 0 :: st) σ Q := am_r_iconst d114_88 (by decide)
theorem r114_89 {p : Nat} {i x : Int32} : am_Rn L xs d 114 89 ls (.int x :: .int i :: .ref p :: st) σ Q = am_wi 1 σ p i (vp_nar .boolean x) (fun σ1 => am_Rn L xs d 114 90 ls st σ1 Q) := am_r_bastore d114_89
theorem r114_90  : am_Rn L xs d 114 90 ls [] σ Q = Q none σ := am_r_return d114_90 rfl
theorem d115_0 : decode (pg_code 115) 0 = .ok (.aload_n 0, 1) := by decide +kernel
theorem d115_1 : decode (pg_code 115) 1 = .ok (.getfield 86, 3) := by decide +kernel
theorem d115_4 : decode (pg_code 115) 4 = .ok (.iload_n 1, 1) := by decide +kernel
theorem d115_5 : decode (pg_code 115) 5 = .ok (.iconst 1, 1) := by decide +kernel
theorem d115_6 : decode (pg_code 115) 6 = .ok (.bastore, 1) := by decide +kernel
theorem d115_7 : decode (pg_code 115) 7 = .ok (.aload_n 0, 1) := by decide +kernel
theorem d115_8 : decode (pg_code 115) 8 = .ok (.getfield 92, 3) := by decide +kernel
theorem d115_11 : decode (pg_code 115) 11 = .ok (.iload_n 1, 1) := by decide +kernel
theorem d115_12 : decode (pg_code 115) 12 = .ok (.iload 4, 2) := by decide +kernel
theorem d115_14 : decode (pg_code 115) 14 = .ok (.iastore, 1) := by decide +kernel
theorem d115_15 : decode (pg_code 115) 15 = .ok (.aload_n 0, 1) := by decide +kernel
theorem d115_16 : decode (pg_code 115) 16 = .ok (.getfield 95, 3) := by decide +kernel
theorem d115_19 : decode (pg_code 115) 19 = .ok (.iload_n 1, 1) := by decide +kernel
theorem d115_20 : decode (pg_code 115) 20 = .ok (.iload 5, 2) := by decide +kernel
theorem d115_22 : decode (pg_code 115) 22 = .ok (.iastore, 1) := by decide +kernel
theorem d115_23 : decode (pg_code 115) 23 = .ok (.aload_n 0, 1) := by decide +kernel
theorem d115_24 : decode (pg_code 115) 24 = .ok (.iload_n 1, 1) := by decide +kernel
theorem d115_25 : decode (pg_code 115) 25 = .ok (.iload_n 2, 1) := by decide +kernel
theorem d115_26 : decode (pg_code 115) 26 = .ok (.iload_n 3, 1) := by decide +kernel
theorem d115_27 : decode (pg_code 115) 27 = .ok (.invokevirtual 200, 3) := by decide +kernel
theorem d115_30 : decode (pg_code 115) 30 = .ok (.aload_n 0, 1) := by decide +kernel
theorem d115_31 : decode (pg_code 115) 31 = .ok (.iload_n 1, 1) := by decide +kernel
theorem d115_32 : decode (pg_code 115) 32 = .ok (.aload_n 0, 1) := by decide +kernel
theorem d115_33 : decode (pg_code 115) 33 = .ok (.getfield 194, 3) := by decide +kernel
theorem d115_36 : decode (pg_code 115) 36 = .ok (.if_icmp .lt 9, 3) := by decide +kernel
theorem d115_39 : decode (pg_code 115) 39 = .ok (.iload_n 1, 1) := by decide +kernel
theorem d115_40 : decode (pg_code 115) 40 = .ok (.iconst 1, 1) := by decide +kernel
theorem d115_41 : decode (pg_code 115) 41 = .ok (.iadd, 1) := by decide +kernel
theorem d115_42 : decode (pg_code 115) 42 = .ok (.goto 7, 3) := by decide +kernel
theorem d115_45 : decode (pg_code 115) 45 = .ok (.aload_n 0, 1) := by decide +kernel
theorem d115_46 : decode (pg_code 115) 46 = .ok (.getfield 194, 3) := by decide +kernel
theorem d115_49 : decode (pg_code 115) 49 = .ok (.putfield 194, 3) := by decide +kernel
theorem d115_52 : decode (pg_code 115) 52 = .ok (.return_, 1) := by decide +kernel
theorem e115 {b1 b2 b3 b4 b5 b6 : Value} : am_Call L xs d 115 [b1, b2, b3, b4, b5, b6] σ Q = am_Rn L xs d 115 0 [b1, b2, b3, b4, b5, b6] [] σ Q := rfl
theorem r115_0  : am_Rn L xs d 115 0 ls st σ Q = am_la ls 0 (fun x => am_Rn L xs d 115 1 ls (x :: st) σ Q) := am_r_aload_n d115_0
theorem r115_1 {p : Nat} : am_Rn L xs d 115 1 ls (.ref p :: st) σ Q = am_fd σ p 6 30 (fun v => am_Rn L xs d 115 4 ls (v :: st) σ Q) := am_r_getfield d115_1 rfl
theorem r115_4  : am_Rn L xs d 115 4 ls st σ Q = am_li ls 1 (fun x => am_Rn L xs d 115 5 ls (.int x :: st) σ Q) := am_r_iload_n d115_4
theorem r115_5  : am_Rn L xs d 115 5 ls st σ Q = am_Rn L xs d 115 6 ls (.int 1 :: st) σ Q := am_r_iconst d115_5 (by decide)
theorem r115_6 {p : Nat} {i x : Int32} : am_Rn L xs d 115 6 ls (.int x :: .int i :: .ref p :: st) σ Q = am_wi 1 σ p i (vp_nar .boolean x) (fun σ1 => am_Rn L xs d 115 7 ls st σ1 Q) := am_r_bastore d115_6
theorem r115_7  : am_Rn L xs d 115 7 ls st σ Q = am_la ls 0 (fun x => am_Rn L xs d 115 8 ls (x :: st) σ Q) := am_r_aload_n d115_7
theorem r115_8 {p : Nat} : am_Rn L xs d 115 8 ls (.ref p :: st) σ Q = am_fd σ p 6 32 (fun v => am_Rn L xs d 115 11 ls (v :: st) σ Q) := am_r_getfield d115_8 rfl
theorem r115_11  : am_Rn L xs d 115 11 ls st σ Q = am_li ls 1 (fun x => am_Rn L xs d 115 12 ls (.int x :: st) σ Q) := am_r_iload_n d115_11
theorem r115_12  : am_Rn L xs d 115 12 ls st σ Q = am_li ls 4 (fun x => am_Rn L xs d 115 14 ls (.int x :: st) σ Q) := am_r_iload d115_12
theorem r115_14 {p : Nat} {i x : Int32} : am_Rn L xs d 115 14 ls (.int x :: .int i :: .ref p :: st) σ Q = am_wi 0 σ p i x (fun σ1 => am_Rn L xs d 115 15 ls st σ1 Q) := am_r_iastore d115_14
theorem r115_15  : am_Rn L xs d 115 15 ls st σ Q = am_la ls 0 (fun x => am_Rn L xs d 115 16 ls (x :: st) σ Q) := am_r_aload_n d115_15
theorem r115_16 {p : Nat} : am_Rn L xs d 115 16 ls (.ref p :: st) σ Q = am_fd σ p 6 33 (fun v => am_Rn L xs d 115 19 ls (v :: st) σ Q) := am_r_getfield d115_16 rfl
theorem r115_19  : am_Rn L xs d 115 19 ls st σ Q = am_li ls 1 (fun x => am_Rn L xs d 115 20 ls (.int x :: st) σ Q) := am_r_iload_n d115_19
theorem r115_20  : am_Rn L xs d 115 20 ls st σ Q = am_li ls 5 (fun x => am_Rn L xs d 115 22 ls (.int x :: st) σ Q) := am_r_iload d115_20
theorem r115_22 {p : Nat} {i x : Int32} : am_Rn L xs d 115 22 ls (.int x :: .int i :: .ref p :: st) σ Q = am_wi 0 σ p i x (fun σ1 => am_Rn L xs d 115 23 ls st σ1 Q) := am_r_iastore d115_22
theorem r115_23  : am_Rn L xs d 115 23 ls st σ Q = am_la ls 0 (fun x => am_Rn L xs d 115 24 ls (x :: st) σ Q) := am_r_aload_n d115_23
theorem r115_24  : am_Rn L xs d 115 24 ls st σ Q = am_li ls 1 (fun x => am_Rn L xs d 115 25 ls (.int x :: st) σ Q) := am_r_iload_n d115_24
theorem r115_25  : am_Rn L xs d 115 25 ls st σ Q = am_li ls 2 (fun x => am_Rn L xs d 115 26 ls (.int x :: st) σ Q) := am_r_iload_n d115_25
theorem r115_26  : am_Rn L xs d 115 26 ls st σ Q = am_li ls 3 (fun x => am_Rn L xs d 115 27 ls (.int x :: st) σ Q) := am_r_iload_n d115_26
theorem r115_27 {a1 a2 a3 : Value} {p : Nat} : am_Rn L xs (d + 1) 115 27 ls (a3 :: a2 :: a1 :: .ref p :: st) σ Q = ((am_oc σ p = 6 ∧ st.length ≤ 4 ∧ am_ok a1 = true ∧ am_ok a2 = true ∧ am_ok a3 = true) ∧ am_Call L xs d 116 [.ref p, a1, a2, a3] σ (fun r σ1 => am_Rn L xs (d + 1) 115 30 ls (r.toList ++ st) σ1 Q)) := am_R_virtual3 d115_27 rfl ⟨by decide, rfl⟩ rfl rfl (by decide)
theorem r115_30  : am_Rn L xs d 115 30 ls st σ Q = am_la ls 0 (fun x => am_Rn L xs d 115 31 ls (x :: st) σ Q) := am_r_aload_n d115_30
theorem r115_31  : am_Rn L xs d 115 31 ls st σ Q = am_li ls 1 (fun x => am_Rn L xs d 115 32 ls (.int x :: st) σ Q) := am_r_iload_n d115_31
theorem r115_32  : am_Rn L xs d 115 32 ls st σ Q = am_la ls 0 (fun x => am_Rn L xs d 115 33 ls (x :: st) σ Q) := am_r_aload_n d115_32
theorem r115_33 {p : Nat} : am_Rn L xs d 115 33 ls (.ref p :: st) σ Q = am_fd σ p 6 29 (fun v => am_Rn L xs d 115 36 ls (v :: st) σ Q) := am_r_getfield d115_33 rfl
theorem r115_36 {a b : Int32} : am_Rn L xs d 115 36 ls (.int b :: .int a :: st) σ Q = if a < b then am_Rn L xs d 115 45 ls st σ Q else am_Rn L xs d 115 39 ls st σ Q := (am_r_icmp (t := 45) d115_36 (by decide)).trans (am_ite _ _ trivial (by simp only [am_cond, decide_eq_true_eq]))
theorem r115_39  : am_Rn L xs d 115 39 ls st σ Q = am_li ls 1 (fun x => am_Rn L xs d 115 40 ls (.int x :: st) σ Q) := am_r_iload_n d115_39
theorem r115_40  : am_Rn L xs d 115 40 ls st σ Q = am_Rn L xs d 115 41 ls (.int 1 :: st) σ Q := am_r_iconst d115_40 (by decide)
theorem r115_41 {a b : Int32} : am_Rn L xs d 115 41 ls (.int b :: .int a :: st) σ Q = am_Rn L xs d 115 42 ls (.int (a + b) :: st) σ Q := am_r_iadd d115_41
theorem r115_42  : am_Rn L xs d 115 42 ls st σ Q = am_Rn L xs d 115 49 ls st σ Q := am_r_goto d115_42 (by decide)
theorem r115_45  : am_Rn L xs d 115 45 ls st σ Q = am_la ls 0 (fun x => am_Rn L xs d 115 46 ls (x :: st) σ Q) := am_r_aload_n d115_45
theorem r115_46 {p : Nat} : am_Rn L xs d 115 46 ls (.ref p :: st) σ Q = am_fd σ p 6 29 (fun v => am_Rn L xs d 115 49 ls (v :: st) σ Q) := am_r_getfield d115_46 rfl
theorem r115_49 {p : Nat} {v : Value} : am_Rn L xs d 115 49 ls (v :: .ref p :: st) σ Q = am_wf 115 6 σ p 6 29 v (fun σ1 => am_Rn L xs d 115 52 ls st σ1 Q) := am_r_putfield d115_49 rfl
theorem r115_52  : am_Rn L xs d 115 52 ls [] σ Q = Q none σ := am_r_return d115_52 rfl
theorem d116_0 : decode (pg_code 116) 0 = .ok (.iconst 0, 1) := by decide +kernel
theorem d116_1 : decode (pg_code 116) 1 = .ok (.istore 4, 2) := by decide +kernel
theorem d116_3 : decode (pg_code 116) 3 = .ok (.iconst 0, 1) := by decide +kernel
theorem d116_4 : decode (pg_code 116) 4 = .ok (.istore 5, 2) := by decide +kernel
theorem d116_6 : decode (pg_code 116) 6 = .ok (.iload 5, 2) := by decide +kernel
theorem d116_8 : decode (pg_code 116) 8 = .ok (.aload_n 0, 1) := by decide +kernel
theorem d116_9 : decode (pg_code 116) 9 = .ok (.getfield 197, 3) := by decide +kernel
theorem d116_12 : decode (pg_code 116) 12 = .ok (.if_icmp .ge 35, 3) := by decide +kernel
theorem d116_15 : decode (pg_code 116) 15 = .ok (.iload_n 3, 1) := by decide +kernel
theorem d116_16 : decode (pg_code 116) 16 = .ok (.ifCond .lt 21, 3) := by decide +kernel
theorem d116_19 : decode (pg_code 116) 19 = .ok (.aload_n 0, 1) := by decide +kernel
theorem d116_20 : decode (pg_code 116) 20 = .ok (.getfield 98, 3) := by decide +kernel
theorem d116_23 : decode (pg_code 116) 23 = .ok (.iload 5, 2) := by decide +kernel
theorem d116_25 : decode (pg_code 116) 25 = .ok (.iaload, 1) := by decide +kernel
theorem d116_26 : decode (pg_code 116) 26 = .ok (.iload_n 3, 1) := by decide +kernel
theorem d116_27 : decode (pg_code 116) 27 = .ok (.if_icmp .ne 10, 3) := by decide +kernel
theorem d116_30 : decode (pg_code 116) 30 = .ok (.iload 5, 2) := by decide +kernel
theorem d116_32 : decode (pg_code 116) 32 = .ok (.iconst 1, 1) := by decide +kernel
theorem d116_33 : decode (pg_code 116) 33 = .ok (.iadd, 1) := by decide +kernel
theorem d116_34 : decode (pg_code 116) 34 = .ok (.goto 5, 3) := by decide +kernel
theorem d116_37 : decode (pg_code 116) 37 = .ok (.iload 4, 2) := by decide +kernel
theorem d116_39 : decode (pg_code 116) 39 = .ok (.istore 4, 2) := by decide +kernel
theorem d116_41 : decode (pg_code 116) 41 = .ok (.iinc 5 1, 3) := by decide +kernel
theorem d116_44 : decode (pg_code 116) 44 = .ok (.goto (-38), 3) := by decide +kernel
theorem d116_47 : decode (pg_code 116) 47 = .ok (.aload_n 0, 1) := by decide +kernel
theorem d116_48 : decode (pg_code 116) 48 = .ok (.getfield 197, 3) := by decide +kernel
theorem d116_51 : decode (pg_code 116) 51 = .ok (.istore 5, 2) := by decide +kernel
theorem d116_53 : decode (pg_code 116) 53 = .ok (.iload 5, 2) := by decide +kernel
theorem d116_55 : decode (pg_code 116) 55 = .ok (.iload 4, 2) := by decide +kernel
theorem d116_57 : decode (pg_code 116) 57 = .ok (.if_icmp .le 25, 3) := by decide +kernel
theorem d116_60 : decode (pg_code 116) 60 = .ok (.aload_n 0, 1) := by decide +kernel
theorem d116_61 : decode (pg_code 116) 61 = .ok (.getfield 98, 3) := by decide +kernel
theorem d116_64 : decode (pg_code 116) 64 = .ok (.iload 5, 2) := by decide +kernel
theorem d116_66 : decode (pg_code 116) 66 = .ok (.aload_n 0, 1) := by decide +kernel
theorem d116_67 : decode (pg_code 116) 67 = .ok (.getfield 98, 3) := by decide +kernel
theorem d116_70 : decode (pg_code 116) 70 = .ok (.iload 5, 2) := by decide +kernel
theorem d116_72 : decode (pg_code 116) 72 = .ok (.iconst 1, 1) := by decide +kernel
theorem d116_73 : decode (pg_code 116) 73 = .ok (.isub, 1) := by decide +kernel
theorem d116_74 : decode (pg_code 116) 74 = .ok (.iaload, 1) := by decide +kernel
theorem d116_75 : decode (pg_code 116) 75 = .ok (.iastore, 1) := by decide +kernel
theorem d116_76 : decode (pg_code 116) 76 = .ok (.iinc 5 (-1), 3) := by decide +kernel
theorem d116_79 : decode (pg_code 116) 79 = .ok (.goto (-26), 3) := by decide +kernel
theorem d116_82 : decode (pg_code 116) 82 = .ok (.aload_n 0, 1) := by decide +kernel
theorem d116_83 : decode (pg_code 116) 83 = .ok (.getfield 98, 3) := by decide +kernel
theorem d116_86 : decode (pg_code 116) 86 = .ok (.iload 4, 2) := by decide +kernel
theorem d116_88 : decode (pg_code 116) 88 = .ok (.iload_n 1, 1) := by decide +kernel
theorem d116_89 : decode (pg_code 116) 89 = .ok (.iastore, 1) := by decide +kernel
theorem d116_90 : decode (pg_code 116) 90 = .ok (.aload_n 0, 1) := by decide +kernel
theorem d116_91 : decode (pg_code 116) 91 = .ok (.dup, 1) := by decide +kernel
theorem d116_92 : decode (pg_code 116) 92 = .ok (.getfield 197, 3) := by decide +kernel
theorem d116_95 : decode (pg_code 116) 95 = .ok (.iconst 1, 1) := by decide +kernel
theorem d116_96 : decode (pg_code 116) 96 = .ok (.iadd, 1) := by decide +kernel
theorem d116_97 : decode (pg_code 116) 97 = .ok (.putfield 197, 3) := by decide +kernel
theorem d116_100 : decode (pg_code 116) 100 = .ok (.aload_n 0, 1) := by decide +kernel
theorem d116_101 : decode (pg_code 116) 101 = .ok (.getfield 89, 3) := by decide +kernel
theorem d116_104 : decode (pg_code 116) 104 = .ok (.iload_n 1, 1) := by decide +kernel
theorem d116_105 : decode (pg_code 116) 105 = .ok (.iload_n 2, 1) := by decide +kernel
theorem d116_106 : decode (pg_code 116) 106 = .ok (.iastore, 1) := by decide +kernel
theorem d116_107 : decode (pg_code 116) 107 = .ok (.return_, 1) := by decide +kernel
theorem e116 {b1 b2 b3 b4 : Value} : am_Call L xs d 116 [b1, b2, b3, b4] σ Q = am_Rn L xs d 116 0 [b1, b2, b3, b4, .retAddr 0, .retAddr 0] [] σ Q := rfl
theorem r116_0  : am_Rn L xs d 116 0 ls st σ Q = am_Rn L xs d 116 1 ls (.int 0 :: st) σ Q := am_r_iconst d116_0 (by decide)
theorem r116_1 {x : Int32} : am_Rn L xs d 116 1 ls (.int x :: st) σ Q = (4 < ls.length ∧ am_Rn L xs d 116 3 (ls.set 4 (.int x)) st σ Q) := am_r_istore d116_1
theorem r116_3  : am_Rn L xs d 116 3 ls st σ Q = am_Rn L xs d 116 4 ls (.int 0 :: st) σ Q := am_r_iconst d116_3 (by decide)
theorem r116_4 {x : Int32} : am_Rn L xs d 116 4 ls (.int x :: st) σ Q = (5 < ls.length ∧ am_Rn L xs d 116 6 (ls.set 5 (.int x)) st σ Q) := am_r_istore d116_4
theorem r116_6  : am_Rn L xs d 116 6 ls st σ Q = am_li ls 5 (fun x => am_Rn L xs d 116 8 ls (.int x :: st) σ Q) := am_r_iload d116_6
theorem r116_8  : am_Rn L xs d 116 8 ls st σ Q = am_la ls 0 (fun x => am_Rn L xs d 116 9 ls (x :: st) σ Q) := am_r_aload_n d116_8
theorem r116_9 {p : Nat} : am_Rn L xs d 116 9 ls (.ref p :: st) σ Q = am_fd σ p 6 35 (fun v => am_Rn L xs d 116 12 ls (v :: st) σ Q) := am_r_getfield d116_9 rfl
theorem r116_12 {a b : Int32} : am_Rn L xs d 116 12 ls (.int b :: .int a :: st) σ Q = if b ≤ a then am_Rn L xs d 116 47 ls st σ Q else am_Rn L xs d 116 15 ls st σ Q := (am_r_icmp (t := 47) d116_12 (by decide)).trans (am_ite _ _ trivial (by simp only [am_cond, decide_eq_true_eq]))
theorem r116_15  : am_Rn L xs d 116 15 ls st σ Q = am_li ls 3 (fun x => am_Rn L xs d 116 16 ls (.int x :: st) σ Q) := am_r_iload_n d116_15
theorem r116_16 {a : Int32} : am_Rn L xs d 116 16 ls (.int a :: st) σ Q = if a < 0 then am_Rn L xs d 116 37 ls st σ Q else am_Rn L xs d 116 19 ls st σ Q := (am_r_if (t := 37) d116_16 (by decide)).trans (am_ite _ _ trivial (by simp only [am_cond, decide_eq_true_eq]))
theorem r116_19  : am_Rn L xs d 116 19 ls st σ Q = am_la ls 0 (fun x => am_Rn L xs d 116 20 ls (x :: st) σ Q) := am_r_aload_n d116_19
theorem r116_20 {p : Nat} : am_Rn L xs d 116 20 ls (.ref p :: st) σ Q = am_fd σ p 6 34 (fun v => am_Rn L xs d 116 23 ls (v :: st) σ Q) := am_r_getfield d116_20 rfl
theorem r116_23  : am_Rn L xs d 116 23 ls st σ Q = am_li ls 5 (fun x => am_Rn L xs d 116 25 ls (.int x :: st) σ Q) := am_r_iload d116_23
theorem r116_25 {p : Nat} {i : Int32} : am_Rn L xs d 116 25 ls (.int i :: .ref p :: st) σ Q = am_ai 0 σ p i (fun x => am_Rn L xs d 116 26 ls (.int x :: st) σ Q) := am_r_iaload d116_25
theorem r116_26  : am_Rn L xs d 116 26 ls st σ Q = am_li ls 3 (fun x => am_Rn L xs d 116 27 ls (.int x :: st) σ Q) := am_r_iload_n d116_26
theorem r116_27 {a b : Int32} : am_Rn L xs d 116 27 ls (.int b :: .int a :: st) σ Q = if ¬ a = b then am_Rn L xs d 116 37 ls st σ Q else am_Rn L xs d 116 30 ls st σ Q := (am_r_icmp (t := 37) d116_27 (by decide)).trans (am_ite _ _ trivial (by simp only [am_cond, decide_eq_true_eq]))
theorem r116_30  : am_Rn L xs d 116 30 ls st σ Q = am_li ls 5 (fun x => am_Rn L xs d 116 32 ls (.int x :: st) σ Q) := am_r_iload d116_30
theorem r116_32  : am_Rn L xs d 116 32 ls st σ Q = am_Rn L xs d 116 33 ls (.int 1 :: st) σ Q := am_r_iconst d116_32 (by decide)
theorem r116_33 {a b : Int32} : am_Rn L xs d 116 33 ls (.int b :: .int a :: st) σ Q = am_Rn L xs d 116 34 ls (.int (a + b) :: st) σ Q := am_r_iadd d116_33
theorem r116_34  : am_Rn L xs d 116 34 ls st σ Q = am_Rn L xs d 116 39 ls st σ Q := am_r_goto d116_34 (by decide)
theorem r116_37  : am_Rn L xs d 116 37 ls st σ Q = am_li ls 4 (fun x => am_Rn L xs d 116 39 ls (.int x :: st) σ Q) := am_r_iload d116_37
theorem r116_39 {x : Int32} : am_Rn L xs d 116 39 ls (.int x :: st) σ Q = (4 < ls.length ∧ am_Rn L xs d 116 41 (ls.set 4 (.int x)) st σ Q) := am_r_istore d116_39
theorem r116_41  : am_Rn L xs d 116 41 ls st σ Q = am_li ls 5 (fun x => am_Rn L xs d 116 44 (ls.set 5 (.int (x + 1))) st σ Q) := am_r_iinc d116_41 (by decide)
theorem r116_44  : am_Rn L xs d 116 44 ls st σ Q = am_Rn L xs d 116 6 ls st σ Q := am_r_goto d116_44 (by decide)
theorem r116_47  : am_Rn L xs d 116 47 ls st σ Q = am_la ls 0 (fun x => am_Rn L xs d 116 48 ls (x :: st) σ Q) := am_r_aload_n d116_47
theorem r116_48 {p : Nat} : am_Rn L xs d 116 48 ls (.ref p :: st) σ Q = am_fd σ p 6 35 (fun v => am_Rn L xs d 116 51 ls (v :: st) σ Q) := am_r_getfield d116_48 rfl
theorem r116_51 {x : Int32} : am_Rn L xs d 116 51 ls (.int x :: st) σ Q = (5 < ls.length ∧ am_Rn L xs d 116 53 (ls.set 5 (.int x)) st σ Q) := am_r_istore d116_51
theorem r116_53  : am_Rn L xs d 116 53 ls st σ Q = am_li ls 5 (fun x => am_Rn L xs d 116 55 ls (.int x :: st) σ Q) := am_r_iload d116_53
theorem r116_55  : am_Rn L xs d 116 55 ls st σ Q = am_li ls 4 (fun x => am_Rn L xs d 116 57 ls (.int x :: st) σ Q) := am_r_iload d116_55
theorem r116_57 {a b : Int32} : am_Rn L xs d 116 57 ls (.int b :: .int a :: st) σ Q = if a ≤ b then am_Rn L xs d 116 82 ls st σ Q else am_Rn L xs d 116 60 ls st σ Q := (am_r_icmp (t := 82) d116_57 (by decide)).trans (am_ite _ _ trivial (by simp only [am_cond, decide_eq_true_eq]))
theorem r116_60  : am_Rn L xs d 116 60 ls st σ Q = am_la ls 0 (fun x => am_Rn L xs d 116 61 ls (x :: st) σ Q) := am_r_aload_n d116_60
theorem r116_61 {p : Nat} : am_Rn L xs d 116 61 ls (.ref p :: st) σ Q = am_fd σ p 6 34 (fun v => am_Rn L xs d 116 64 ls (v :: st) σ Q) := am_r_getfield d116_61 rfl
theorem r116_64  : am_Rn L xs d 116 64 ls st σ Q = am_li ls 5 (fun x => am_Rn L xs d 116 66 ls (.int x :: st) σ Q) := am_r_iload d116_64
theorem r116_66  : am_Rn L xs d 116 66 ls st σ Q = am_la ls 0 (fun x => am_Rn L xs d 116 67 ls (x :: st) σ Q) := am_r_aload_n d116_66
theorem r116_67 {p : Nat} : am_Rn L xs d 116 67 ls (.ref p :: st) σ Q = am_fd σ p 6 34 (fun v => am_Rn L xs d 116 70 ls (v :: st) σ Q) := am_r_getfield d116_67 rfl
theorem r116_70  : am_Rn L xs d 116 70 ls st σ Q = am_li ls 5 (fun x => am_Rn L xs d 116 72 ls (.int x :: st) σ Q) := am_r_iload d116_70
theorem r116_72  : am_Rn L xs d 116 72 ls st σ Q = am_Rn L xs d 116 73 ls (.int 1 :: st) σ Q := am_r_iconst d116_72 (by decide)
theorem r116_73 {a b : Int32} : am_Rn L xs d 116 73 ls (.int b :: .int a :: st) σ Q = am_Rn L xs d 116 74 ls (.int (a - b) :: st) σ Q := am_r_isub d116_73
theorem r116_74 {p : Nat} {i : Int32} : am_Rn L xs d 116 74 ls (.int i :: .ref p :: st) σ Q = am_ai 0 σ p i (fun x => am_Rn L xs d 116 75 ls (.int x :: st) σ Q) := am_r_iaload d116_74
theorem r116_75 {p : Nat} {i x : Int32} : am_Rn L xs d 116 75 ls (.int x :: .int i :: .ref p :: st) σ Q = am_wi 0 σ p i x (fun σ1 => am_Rn L xs d 116 76 ls st σ1 Q) := am_r_iastore d116_75
theorem r116_76  : am_Rn L xs d 116 76 ls st σ Q = am_li ls 5 (fun x => am_Rn L xs d 116 79 (ls.set 5 (.int (x + (-1)))) st σ Q) := am_r_iinc d116_76 (by decide)
theorem r116_79  : am_Rn L xs d 116 79 ls st σ Q = am_Rn L xs d 116 53 ls st σ Q := am_r_goto d116_79 (by decide)
theorem r116_82  : am_Rn L xs d 116 82 ls st σ Q = am_la ls 0 (fun x => am_Rn L xs d 116 83 ls (x :: st) σ Q) := am_r_aload_n d116_82
theorem r116_83 {p : Nat} : am_Rn L xs d 116 83 ls (.ref p :: st) σ Q = am_fd σ p 6 34 (fun v => am_Rn L xs d 116 86 ls (v :: st) σ Q) := am_r_getfield d116_83 rfl
theorem r116_86  : am_Rn L xs d 116 86 ls st σ Q = am_li ls 4 (fun x => am_Rn L xs d 116 88 ls (.int x :: st) σ Q) := am_r_iload d116_86
theorem r116_88  : am_Rn L xs d 116 88 ls st σ Q = am_li ls 1 (fun x => am_Rn L xs d 116 89 ls (.int x :: st) σ Q) := am_r_iload_n d116_88
theorem r116_89 {p : Nat} {i x : Int32} : am_Rn L xs d 116 89 ls (.int x :: .int i :: .ref p :: st) σ Q = am_wi 0 σ p i x (fun σ1 => am_Rn L xs d 116 90 ls st σ1 Q) := am_r_iastore d116_89
theorem r116_90  : am_Rn L xs d 116 90 ls st σ Q = am_la ls 0 (fun x => am_Rn L xs d 116 91 ls (x :: st) σ Q) := am_r_aload_n d116_90
theorem r116_91 {a : Value} : am_Rn L xs d 116 91 ls (a :: st) σ Q = (am_ok a = true ∧ am_Rn L xs d 116 92 ls (a :: a :: st) σ Q) := am_r_dup d116_91
theorem r116_92 {p : Nat} : am_Rn L xs d 116 92 ls (.ref p :: st) σ Q = am_fd σ p 6 35 (fun v => am_Rn L xs d 116 95 ls (v :: st) σ Q) := am_r_getfield d116_92 rfl
theorem r116_95  : am_Rn L xs d 116 95 ls st σ Q = am_Rn L xs d 116 96 ls (.int 1 :: st) σ Q := am_r_iconst d116_95 (by decide)
theorem r116_96 {a b : Int32} : am_Rn L xs d 116 96 ls (.int b :: .int a :: st) σ Q = am_Rn L xs d 116 97 ls (.int (a + b) :: st) σ Q := am_r_iadd d116_96
theorem r116_97 {p : Nat} {v : Value} : am_Rn L xs d 116 97 ls (v :: .ref p :: st) σ Q = am_wf 116 6 σ p 6 35 v (fun σ1 => am_Rn L xs d 116 100 ls st σ1 Q) := am_r_putfield d116_97 rfl
theorem r116_100  : am_Rn L xs d 116 100 ls st σ Q = am_la ls 0 (fun x => am_Rn L xs d 116 101 ls (x :: st) σ Q) := am_r_aload_n d116_100
theorem r116_101 {p : Nat} : am_Rn L xs d 116 101 ls (.ref p :: st) σ Q = am_fd σ p 6 31 (fun v => am_Rn L xs d 116 104 ls (v :: st) σ Q) := am_r_getfield d116_101 rfl
theorem r116_104  : am_Rn L xs d 116 104 ls st σ Q = am_li ls 1 (fun x => am_Rn L xs d 116 105 ls (.int x :: st) σ Q) := am_r_iload_n d116_104
theorem r116_105  : am_Rn L xs d 116 105 ls st σ Q = am_li ls 2 (fun x => am_Rn L xs d 116 106 ls (.int x :: st) σ Q) := am_r_iload_n d116_105
theorem r116_106 {p : Nat} {i x : Int32} : am_Rn L xs d 116 106 ls (.int x :: .int i :: .ref p :: st) σ Q = am_wi 0 σ p i x (fun σ1 => am_Rn L xs d 116 107 ls st σ1 Q) := am_r_iastore d116_106
theorem r116_107  : am_Rn L xs d 116 107 ls [] σ Q = Q none σ := am_r_return d116_107 rfl
theorem d117_0 : decode (pg_code 117) 0 = .ok (.iconst 0, 1) := by decide +kernel
theorem d117_1 : decode (pg_code 117) 1 = .ok (.istore_n 2, 1) := by decide +kernel
theorem d117_2 : decode (pg_code 117) 2 = .ok (.iconst 0, 1) := by decide +kernel
theorem d117_3 : decode (pg_code 117) 3 = .ok (.istore_n 3, 1) := by decide +kernel
theorem d117_4 : decode (pg_code 117) 4 = .ok (.iload_n 3, 1) := by decide +kernel
theorem d117_5 : decode (pg_code 117) 5 = .ok (.aload_n 0, 1) := by decide +kernel
theorem d117_6 : decode (pg_code 117) 6 = .ok (.getfield 197, 3) := by decide +kernel
theorem d117_9 : decode (pg_code 117) 9 = .ok (.if_icmp .ge 25, 3) := by decide +kernel
theorem d117_12 : decode (pg_code 117) 12 = .ok (.aload_n 0, 1) := by decide +kernel
theorem d117_13 : decode (pg_code 117) 13 = .ok (.getfield 98, 3) := by decide +kernel
theorem d117_16 : decode (pg_code 117) 16 = .ok (.iload_n 3, 1) := by decide +kernel
theorem d117_17 : decode (pg_code 117) 17 = .ok (.iaload, 1) := by decide +kernel
theorem d117_18 : decode (pg_code 117) 18 = .ok (.iload_n 1, 1) := by decide +kernel
theorem d117_19 : decode (pg_code 117) 19 = .ok (.if_icmp .ne 7, 3) := by decide +kernel
theorem d117_22 : decode (pg_code 117) 22 = .ok (.iload_n 3, 1) := by decide +kernel
theorem d117_23 : decode (pg_code 117) 23 = .ok (.goto 4, 3) := by decide +kernel
theorem d117_26 : decode (pg_code 117) 26 = .ok (.iload_n 2, 1) := by decide +kernel
theorem d117_27 : decode (pg_code 117) 27 = .ok (.istore_n 2, 1) := by decide +kernel
theorem d117_28 : decode (pg_code 117) 28 = .ok (.iinc 3 1, 3) := by decide +kernel
theorem d117_31 : decode (pg_code 117) 31 = .ok (.goto (-27), 3) := by decide +kernel
theorem d117_34 : decode (pg_code 117) 34 = .ok (.iload_n 2, 1) := by decide +kernel
theorem d117_35 : decode (pg_code 117) 35 = .ok (.istore_n 3, 1) := by decide +kernel
theorem d117_36 : decode (pg_code 117) 36 = .ok (.iload_n 3, 1) := by decide +kernel
theorem d117_37 : decode (pg_code 117) 37 = .ok (.iconst 1, 1) := by decide +kernel
theorem d117_38 : decode (pg_code 117) 38 = .ok (.iadd, 1) := by decide +kernel
theorem d117_39 : decode (pg_code 117) 39 = .ok (.aload_n 0, 1) := by decide +kernel
theorem d117_40 : decode (pg_code 117) 40 = .ok (.getfield 197, 3) := by decide +kernel
theorem d117_43 : decode (pg_code 117) 43 = .ok (.if_icmp .ge 23, 3) := by decide +kernel
theorem d117_46 : decode (pg_code 117) 46 = .ok (.aload_n 0, 1) := by decide +kernel
theorem d117_47 : decode (pg_code 117) 47 = .ok (.getfield 98, 3) := by decide +kernel
theorem d117_50 : decode (pg_code 117) 50 = .ok (.iload_n 3, 1) := by decide +kernel
theorem d117_51 : decode (pg_code 117) 51 = .ok (.aload_n 0, 1) := by decide +kernel
theorem d117_52 : decode (pg_code 117) 52 = .ok (.getfield 98, 3) := by decide +kernel
theorem d117_55 : decode (pg_code 117) 55 = .ok (.iload_n 3, 1) := by decide +kernel
theorem d117_56 : decode (pg_code 117) 56 = .ok (.iconst 1, 1) := by decide +kernel
theorem d117_57 : decode (pg_code 117) 57 = .ok (.iadd, 1) := by decide +kernel
theorem d117_58 : decode (pg_code 117) 58 = .ok (.iaload, 1) := by decide +kernel
theorem d117_59 : decode (pg_code 117) 59 = .ok (.iastore, 1) := by decide +kernel
theorem d117_60 : decode (pg_code 117) 60 = .ok (.iinc 3 1, 3) := by decide +kernel
theorem d117_63 : decode (pg_code 117) 63 = .ok (.goto (-27), 3) := by decide +kernel
theorem d117_66 : decode (pg_code 117) 66 = .ok (.aload_n 0, 1) := by decide +kernel
theorem d117_67 : decode (pg_code 117) 67 = .ok (.dup, 1) := by decide +kernel
theorem d117_68 : decode (pg_code 117) 68 = .ok (.getfield 197, 3) := by decide +kernel
theorem d117_71 : decode (pg_code 117) 71 = .ok (.iconst 1, 1) := by decide +kernel
theorem d117_72 : decode (pg_code 117) 72 = .ok (.isub, 1) := by decide +kernel
theorem d117_73 : decode (pg_code 117) 73 = .ok (.putfield 197, 3) := by decide +kernel
theorem d117_76 : decode (pg_code 117) 76 = .ok (.return_, 1) := by decide +kernel
theorem e117 {b1 b2 : Value} : am_Call L xs d 117 [b1, b2] σ Q = am_Rn L xs d 117 0 [b1, b2, .retAddr 0, .retAddr 0] [] σ Q := rfl
theorem r117_0  : am_Rn L xs d 117 0 ls st σ Q = am_Rn L xs d 117 1 ls (.int 0 :: st) σ Q := am_r_iconst d117_0 (by decide)
theorem r117_1 {x : Int32} : am_Rn L xs d 117 1 ls (.int x :: st) σ Q = (2 < ls.length ∧ am_Rn L xs d 117 2 (ls.set 2 (.int x)) st σ Q) := am_r_istore_n d117_1
theorem r117_2  : am_Rn L xs d 117 2 ls st σ Q = am_Rn L xs d 117 3 ls (.int 0 :: st) σ Q := am_r_iconst d117_2 (by decide)
theorem r117_3 {x : Int32} : am_Rn L xs d 117 3 ls (.int x :: st) σ Q = (3 < ls.length ∧ am_Rn L xs d 117 4 (ls.set 3 (.int x)) st σ Q) := am_r_istore_n d117_3
theorem r117_4  : am_Rn L xs d 117 4 ls st σ Q = am_li ls 3 (fun x => am_Rn L xs d 117 5 ls (.int x :: st) σ Q) := am_r_iload_n d117_4
theorem r117_5  : am_Rn L xs d 117 5 ls st σ Q = am_la ls 0 (fun x => am_Rn L xs d 117 6 ls (x :: st) σ Q) := am_r_aload_n d117_5
theorem r117_6 {p : Nat} : am_Rn L xs d 117 6 ls (.ref p :: st) σ Q = am_fd σ p 6 35 (fun v => am_Rn L xs d 117 9 ls (v :: st) σ Q) := am_r_getfield d117_6 rfl
theorem r117_9 {a b : Int32} : am_Rn L xs d 117 9 ls (.int b :: .int a :: st) σ Q = if b ≤ a then am_Rn L xs d 117 34 ls st σ Q else am_Rn L xs d 117 12 ls st σ Q := (am_r_icmp (t := 34) d117_9 (by decide)).trans (am_ite _ _ trivial (by simp only [am_cond, decide_eq_true_eq]))
theorem r117_12  : am_Rn L xs d 117 12 ls st σ Q = am_la ls 0 (fun x => am_Rn L xs d 117 13 ls (x :: st) σ Q) := am_r_aload_n d117_12
theorem r117_13 {p : Nat} : am_Rn L xs d 117 13 ls (.ref p :: st) σ Q = am_fd σ p 6 34 (fun v => am_Rn L xs d 117 16 ls (v :: st) σ Q) := am_r_getfield d117_13 rfl
theorem r117_16  : am_Rn L xs d 117 16 ls st σ Q = am_li ls 3 (fun x => am_Rn L xs d 117 17 ls (.int x :: st) σ Q) := am_r_iload_n d117_16
theorem r117_17 {p : Nat} {i : Int32} : am_Rn L xs d 117 17 ls (.int i :: .ref p :: st) σ Q = am_ai 0 σ p i (fun x => am_Rn L xs d 117 18 ls (.int x :: st) σ Q) := am_r_iaload d117_17
theorem r117_18  : am_Rn L xs d 117 18 ls st σ Q = am_li ls 1 (fun x => am_Rn L xs d 117 19 ls (.int x :: st) σ Q) := am_r_iload_n d117_18
theorem r117_19 {a b : Int32} : am_Rn L xs d 117 19 ls (.int b :: .int a :: st) σ Q = if ¬ a = b then am_Rn L xs d 117 26 ls st σ Q else am_Rn L xs d 117 22 ls st σ Q := (am_r_icmp (t := 26) d117_19 (by decide)).trans (am_ite _ _ trivial (by simp only [am_cond, decide_eq_true_eq]))
theorem r117_22  : am_Rn L xs d 117 22 ls st σ Q = am_li ls 3 (fun x => am_Rn L xs d 117 23 ls (.int x :: st) σ Q) := am_r_iload_n d117_22
theorem r117_23  : am_Rn L xs d 117 23 ls st σ Q = am_Rn L xs d 117 27 ls st σ Q := am_r_goto d117_23 (by decide)
theorem r117_26  : am_Rn L xs d 117 26 ls st σ Q = am_li ls 2 (fun x => am_Rn L xs d 117 27 ls (.int x :: st) σ Q) := am_r_iload_n d117_26
theorem r117_27 {x : Int32} : am_Rn L xs d 117 27 ls (.int x :: st) σ Q = (2 < ls.length ∧ am_Rn L xs d 117 28 (ls.set 2 (.int x)) st σ Q) := am_r_istore_n d117_27
theorem r117_28  : am_Rn L xs d 117 28 ls st σ Q = am_li ls 3 (fun x => am_Rn L xs d 117 31 (ls.set 3 (.int (x + 1))) st σ Q) := am_r_iinc d117_28 (by decide)
theorem r117_31  : am_Rn L xs d 117 31 ls st σ Q = am_Rn L xs d 117 4 ls st σ Q := am_r_goto d117_31 (by decide)
theorem r117_34  : am_Rn L xs d 117 34 ls st σ Q = am_li ls 2 (fun x => am_Rn L xs d 117 35 ls (.int x :: st) σ Q) := am_r_iload_n d117_34
theorem r117_35 {x : Int32} : am_Rn L xs d 117 35 ls (.int x :: st) σ Q = (3 < ls.length ∧ am_Rn L xs d 117 36 (ls.set 3 (.int x)) st σ Q) := am_r_istore_n d117_35
theorem r117_36  : am_Rn L xs d 117 36 ls st σ Q = am_li ls 3 (fun x => am_Rn L xs d 117 37 ls (.int x :: st) σ Q) := am_r_iload_n d117_36
theorem r117_37  : am_Rn L xs d 117 37 ls st σ Q = am_Rn L xs d 117 38 ls (.int 1 :: st) σ Q := am_r_iconst d117_37 (by decide)
theorem r117_38 {a b : Int32} : am_Rn L xs d 117 38 ls (.int b :: .int a :: st) σ Q = am_Rn L xs d 117 39 ls (.int (a + b) :: st) σ Q := am_r_iadd d117_38
theorem r117_39  : am_Rn L xs d 117 39 ls st σ Q = am_la ls 0 (fun x => am_Rn L xs d 117 40 ls (x :: st) σ Q) := am_r_aload_n d117_39
theorem r117_40 {p : Nat} : am_Rn L xs d 117 40 ls (.ref p :: st) σ Q = am_fd σ p 6 35 (fun v => am_Rn L xs d 117 43 ls (v :: st) σ Q) := am_r_getfield d117_40 rfl
theorem r117_43 {a b : Int32} : am_Rn L xs d 117 43 ls (.int b :: .int a :: st) σ Q = if b ≤ a then am_Rn L xs d 117 66 ls st σ Q else am_Rn L xs d 117 46 ls st σ Q := (am_r_icmp (t := 66) d117_43 (by decide)).trans (am_ite _ _ trivial (by simp only [am_cond, decide_eq_true_eq]))
theorem r117_46  : am_Rn L xs d 117 46 ls st σ Q = am_la ls 0 (fun x => am_Rn L xs d 117 47 ls (x :: st) σ Q) := am_r_aload_n d117_46
theorem r117_47 {p : Nat} : am_Rn L xs d 117 47 ls (.ref p :: st) σ Q = am_fd σ p 6 34 (fun v => am_Rn L xs d 117 50 ls (v :: st) σ Q) := am_r_getfield d117_47 rfl
theorem r117_50  : am_Rn L xs d 117 50 ls st σ Q = am_li ls 3 (fun x => am_Rn L xs d 117 51 ls (.int x :: st) σ Q) := am_r_iload_n d117_50
theorem r117_51  : am_Rn L xs d 117 51 ls st σ Q = am_la ls 0 (fun x => am_Rn L xs d 117 52 ls (x :: st) σ Q) := am_r_aload_n d117_51
theorem r117_52 {p : Nat} : am_Rn L xs d 117 52 ls (.ref p :: st) σ Q = am_fd σ p 6 34 (fun v => am_Rn L xs d 117 55 ls (v :: st) σ Q) := am_r_getfield d117_52 rfl
theorem r117_55  : am_Rn L xs d 117 55 ls st σ Q = am_li ls 3 (fun x => am_Rn L xs d 117 56 ls (.int x :: st) σ Q) := am_r_iload_n d117_55
theorem r117_56  : am_Rn L xs d 117 56 ls st σ Q = am_Rn L xs d 117 57 ls (.int 1 :: st) σ Q := am_r_iconst d117_56 (by decide)
theorem r117_57 {a b : Int32} : am_Rn L xs d 117 57 ls (.int b :: .int a :: st) σ Q = am_Rn L xs d 117 58 ls (.int (a + b) :: st) σ Q := am_r_iadd d117_57
theorem r117_58 {p : Nat} {i : Int32} : am_Rn L xs d 117 58 ls (.int i :: .ref p :: st) σ Q = am_ai 0 σ p i (fun x => am_Rn L xs d 117 59 ls (.int x :: st) σ Q) := am_r_iaload d117_58
theorem r117_59 {p : Nat} {i x : Int32} : am_Rn L xs d 117 59 ls (.int x :: .int i :: .ref p :: st) σ Q = am_wi 0 σ p i x (fun σ1 => am_Rn L xs d 117 60 ls st σ1 Q) := am_r_iastore d117_59
theorem r117_60  : am_Rn L xs d 117 60 ls st σ Q = am_li ls 3 (fun x => am_Rn L xs d 117 63 (ls.set 3 (.int (x + 1))) st σ Q) := am_r_iinc d117_60 (by decide)
theorem r117_63  : am_Rn L xs d 117 63 ls st σ Q = am_Rn L xs d 117 36 ls st σ Q := am_r_goto d117_63 (by decide)
theorem r117_66  : am_Rn L xs d 117 66 ls st σ Q = am_la ls 0 (fun x => am_Rn L xs d 117 67 ls (x :: st) σ Q) := am_r_aload_n d117_66
theorem r117_67 {a : Value} : am_Rn L xs d 117 67 ls (a :: st) σ Q = (am_ok a = true ∧ am_Rn L xs d 117 68 ls (a :: a :: st) σ Q) := am_r_dup d117_67
theorem r117_68 {p : Nat} : am_Rn L xs d 117 68 ls (.ref p :: st) σ Q = am_fd σ p 6 35 (fun v => am_Rn L xs d 117 71 ls (v :: st) σ Q) := am_r_getfield d117_68 rfl
theorem r117_71  : am_Rn L xs d 117 71 ls st σ Q = am_Rn L xs d 117 72 ls (.int 1 :: st) σ Q := am_r_iconst d117_71 (by decide)
theorem r117_72 {a b : Int32} : am_Rn L xs d 117 72 ls (.int b :: .int a :: st) σ Q = am_Rn L xs d 117 73 ls (.int (a - b) :: st) σ Q := am_r_isub d117_72
theorem r117_73 {p : Nat} {v : Value} : am_Rn L xs d 117 73 ls (v :: .ref p :: st) σ Q = am_wf 117 6 σ p 6 35 v (fun σ1 => am_Rn L xs d 117 76 ls st σ1 Q) := am_r_putfield d117_73 rfl
theorem r117_76  : am_Rn L xs d 117 76 ls [] σ Q = Q none σ := am_r_return d117_76 rfl
theorem d118_0 : decode (pg_code 118) 0 = .ok (.iconst 0, 1) := by decide +kernel
theorem d118_1 : decode (pg_code 118) 1 = .ok (.istore_n 1, 1) := by decide +kernel
theorem d118_2 : decode (pg_code 118) 2 = .ok (.iconst 0, 1) := by decide +kernel
theorem d118_3 : decode (pg_code 118) 3 = .ok (.istore_n 2, 1) := by decide +kernel
theorem d118_4 : decode (pg_code 118) 4 = .ok (.iload_n 2, 1) := by decide +kernel
theorem d118_5 : decode (pg_code 118) 5 = .ok (.bipush 36, 2) := by decide +kernel
theorem d118_7 : decode (pg_code 118) 7 = .ok (.if_icmp .ge 26, 3) := by decide +kernel
theorem d118_10 : decode (pg_code 118) 10 = .ok (.iload_n 1, 1) := by decide +kernel
theorem d118_11 : decode (pg_code 118) 11 = .ok (.aload_n 0, 1) := by decide +kernel
theorem d118_12 : decode (pg_code 118) 12 = .ok (.getfield 86, 3) := by decide +kernel
theorem d118_15 : decode (pg_code 118) 15 = .ok (.iload_n 2, 1) := by decide +kernel
theorem d118_16 : decode (pg_code 118) 16 = .ok (.baload, 1) := by decide +kernel
theorem d118_17 : decode (pg_code 118) 17 = .ok (.ifCond .eq 7, 3) := by decide +kernel
theorem d118_20 : decode (pg_code 118) 20 = .ok (.iconst 1, 1) := by decide +kernel
theorem d118_21 : decode (pg_code 118) 21 = .ok (.goto 4, 3) := by decide +kernel
theorem d118_24 : decode (pg_code 118) 24 = .ok (.iconst 0, 1) := by decide +kernel
theorem d118_25 : decode (pg_code 118) 25 = .ok (.iadd, 1) := by decide +kernel
theorem d118_26 : decode (pg_code 118) 26 = .ok (.istore_n 1, 1) := by decide +kernel
theorem d118_27 : decode (pg_code 118) 27 = .ok (.iinc 2 1, 3) := by decide +kernel
theorem d118_30 : decode (pg_code 118) 30 = .ok (.goto (-26), 3) := by decide +kernel
theorem d118_33 : decode (pg_code 118) 33 = .ok (.iload_n 1, 1) := by decide +kernel
theorem d118_34 : decode (pg_code 118) 34 = .ok (.ireturn, 1) := by decide +kernel
theorem e118 {b1 : Value} : am_Call L xs d 118 [b1] σ Q = am_Rn L xs d 118 0 [b1, .retAddr 0, .retAddr 0] [] σ Q := rfl
theorem r118_0  : am_Rn L xs d 118 0 ls st σ Q = am_Rn L xs d 118 1 ls (.int 0 :: st) σ Q := am_r_iconst d118_0 (by decide)
theorem r118_1 {x : Int32} : am_Rn L xs d 118 1 ls (.int x :: st) σ Q = (1 < ls.length ∧ am_Rn L xs d 118 2 (ls.set 1 (.int x)) st σ Q) := am_r_istore_n d118_1
theorem r118_2  : am_Rn L xs d 118 2 ls st σ Q = am_Rn L xs d 118 3 ls (.int 0 :: st) σ Q := am_r_iconst d118_2 (by decide)
theorem r118_3 {x : Int32} : am_Rn L xs d 118 3 ls (.int x :: st) σ Q = (2 < ls.length ∧ am_Rn L xs d 118 4 (ls.set 2 (.int x)) st σ Q) := am_r_istore_n d118_3
theorem r118_4  : am_Rn L xs d 118 4 ls st σ Q = am_li ls 2 (fun x => am_Rn L xs d 118 5 ls (.int x :: st) σ Q) := am_r_iload_n d118_4
theorem r118_5  : am_Rn L xs d 118 5 ls st σ Q = am_Rn L xs d 118 7 ls (.int 36 :: st) σ Q := am_r_bipush d118_5 (by decide)
theorem r118_7 {a b : Int32} : am_Rn L xs d 118 7 ls (.int b :: .int a :: st) σ Q = if b ≤ a then am_Rn L xs d 118 33 ls st σ Q else am_Rn L xs d 118 10 ls st σ Q := (am_r_icmp (t := 33) d118_7 (by decide)).trans (am_ite _ _ trivial (by simp only [am_cond, decide_eq_true_eq]))
theorem r118_10  : am_Rn L xs d 118 10 ls st σ Q = am_li ls 1 (fun x => am_Rn L xs d 118 11 ls (.int x :: st) σ Q) := am_r_iload_n d118_10
theorem r118_11  : am_Rn L xs d 118 11 ls st σ Q = am_la ls 0 (fun x => am_Rn L xs d 118 12 ls (x :: st) σ Q) := am_r_aload_n d118_11
theorem r118_12 {p : Nat} : am_Rn L xs d 118 12 ls (.ref p :: st) σ Q = am_fd σ p 6 30 (fun v => am_Rn L xs d 118 15 ls (v :: st) σ Q) := am_r_getfield d118_12 rfl
theorem r118_15  : am_Rn L xs d 118 15 ls st σ Q = am_li ls 2 (fun x => am_Rn L xs d 118 16 ls (.int x :: st) σ Q) := am_r_iload_n d118_15
theorem r118_16 {p : Nat} {i : Int32} : am_Rn L xs d 118 16 ls (.int i :: .ref p :: st) σ Q = am_ai 1 σ p i (fun x => am_Rn L xs d 118 17 ls (.int x :: st) σ Q) := am_r_baload d118_16
theorem r118_17 {a : Int32} : am_Rn L xs d 118 17 ls (.int a :: st) σ Q = if a = 0 then am_Rn L xs d 118 24 ls st σ Q else am_Rn L xs d 118 20 ls st σ Q := (am_r_if (t := 24) d118_17 (by decide)).trans (am_ite _ _ trivial (by simp only [am_cond, decide_eq_true_eq]))
theorem r118_20  : am_Rn L xs d 118 20 ls st σ Q = am_Rn L xs d 118 21 ls (.int 1 :: st) σ Q := am_r_iconst d118_20 (by decide)
theorem r118_21  : am_Rn L xs d 118 21 ls st σ Q = am_Rn L xs d 118 25 ls st σ Q := am_r_goto d118_21 (by decide)
theorem r118_24  : am_Rn L xs d 118 24 ls st σ Q = am_Rn L xs d 118 25 ls (.int 0 :: st) σ Q := am_r_iconst d118_24 (by decide)
theorem r118_25 {a b : Int32} : am_Rn L xs d 118 25 ls (.int b :: .int a :: st) σ Q = am_Rn L xs d 118 26 ls (.int (a + b) :: st) σ Q := am_r_iadd d118_25
theorem r118_26 {x : Int32} : am_Rn L xs d 118 26 ls (.int x :: st) σ Q = (1 < ls.length ∧ am_Rn L xs d 118 27 (ls.set 1 (.int x)) st σ Q) := am_r_istore_n d118_26
theorem r118_27  : am_Rn L xs d 118 27 ls st σ Q = am_li ls 2 (fun x => am_Rn L xs d 118 30 (ls.set 2 (.int (x + 1))) st σ Q) := am_r_iinc d118_27 (by decide)
theorem r118_30  : am_Rn L xs d 118 30 ls st σ Q = am_Rn L xs d 118 4 ls st σ Q := am_r_goto d118_30 (by decide)
theorem r118_33  : am_Rn L xs d 118 33 ls st σ Q = am_li ls 1 (fun x => am_Rn L xs d 118 34 ls (.int x :: st) σ Q) := am_r_iload_n d118_33
theorem r118_34 {v : Int32} : am_Rn L xs d 118 34 ls [.int v] σ Q = Q (some (.int v)) σ := am_r_ireturn d118_34 rfl
theorem d119_0 : decode (pg_code 119) 0 = .ok (.aload_n 0, 1) := by decide +kernel
theorem d119_1 : decode (pg_code 119) 1 = .ok (.getfield 7, 3) := by decide +kernel
theorem d119_4 : decode (pg_code 119) 4 = .ok (.iconst 0, 1) := by decide +kernel
theorem d119_5 : decode (pg_code 119) 5 = .ok (.iaload, 1) := by decide +kernel
theorem d119_6 : decode (pg_code 119) 6 = .ok (.ifCond .eq 21, 3) := by decide +kernel
theorem d119_9 : decode (pg_code 119) 9 = .ok (.aload_n 0, 1) := by decide +kernel
theorem d119_10 : decode (pg_code 119) 10 = .ok (.getfield 7, 3) := by decide +kernel
theorem d119_13 : decode (pg_code 119) 13 = .ok (.iconst 1, 1) := by decide +kernel
theorem d119_14 : decode (pg_code 119) 14 = .ok (.iaload, 1) := by decide +kernel
theorem d119_15 : decode (pg_code 119) 15 = .ok (.ifCond .eq 12, 3) := by decide +kernel
theorem d119_18 : decode (pg_code 119) 18 = .ok (.aload_n 0, 1) := by decide +kernel
theorem d119_19 : decode (pg_code 119) 19 = .ok (.getfield 7, 3) := by decide +kernel
theorem d119_22 : decode (pg_code 119) 22 = .ok (.iconst 2, 1) := by decide +kernel
theorem d119_23 : decode (pg_code 119) 23 = .ok (.iaload, 1) := by decide +kernel
theorem d119_24 : decode (pg_code 119) 24 = .ok (.ifCond .ne 5, 3) := by decide +kernel
theorem d119_27 : decode (pg_code 119) 27 = .ok (.iconst (-1), 1) := by decide +kernel
theorem d119_28 : decode (pg_code 119) 28 = .ok (.ireturn, 1) := by decide +kernel
theorem d119_29 : decode (pg_code 119) 29 = .ok (.aload_n 0, 1) := by decide +kernel
theorem d119_30 : decode (pg_code 119) 30 = .ok (.iconst 0, 1) := by decide +kernel
theorem d119_31 : decode (pg_code 119) 31 = .ok (.iconst 1, 1) := by decide +kernel
theorem d119_32 : decode (pg_code 119) 32 = .ok (.invokevirtual 184, 3) := by decide +kernel
theorem d119_35 : decode (pg_code 119) 35 = .ok (.aload_n 0, 1) := by decide +kernel
theorem d119_36 : decode (pg_code 119) 36 = .ok (.iconst 2, 1) := by decide +kernel
theorem d119_37 : decode (pg_code 119) 37 = .ok (.invokevirtual 187, 3) := by decide +kernel
theorem d119_40 : decode (pg_code 119) 40 = .ok (.aload_n 0, 1) := by decide +kernel
theorem d119_41 : decode (pg_code 119) 41 = .ok (.iconst 0, 1) := by decide +kernel
theorem d119_42 : decode (pg_code 119) 42 = .ok (.iconst 2, 1) := by decide +kernel
theorem d119_43 : decode (pg_code 119) 43 = .ok (.invokevirtual 184, 3) := by decide +kernel
theorem d119_46 : decode (pg_code 119) 46 = .ok (.aload_n 0, 1) := by decide +kernel
theorem d119_47 : decode (pg_code 119) 47 = .ok (.iconst 3, 1) := by decide +kernel
theorem d119_48 : decode (pg_code 119) 48 = .ok (.invokevirtual 187, 3) := by decide +kernel
theorem d119_51 : decode (pg_code 119) 51 = .ok (.aload_n 0, 1) := by decide +kernel
theorem d119_52 : decode (pg_code 119) 52 = .ok (.iconst 0, 1) := by decide +kernel
theorem d119_53 : decode (pg_code 119) 53 = .ok (.invokevirtual 211, 3) := by decide +kernel
theorem d119_56 : decode (pg_code 119) 56 = .ok (.bipush 80, 2) := by decide +kernel
theorem d119_58 : decode (pg_code 119) 58 = .ok (.istore_n 1, 1) := by decide +kernel
theorem d119_59 : decode (pg_code 119) 59 = .ok (.iload_n 1, 1) := by decide +kernel
theorem d119_60 : decode (pg_code 119) 60 = .ok (.bipush 80, 2) := by decide +kernel
theorem d119_62 : decode (pg_code 119) 62 = .ok (.aload_n 0, 1) := by decide +kernel
theorem d119_63 : decode (pg_code 119) 63 = .ok (.getfield 59, 3) := by decide +kernel
theorem d119_66 : decode (pg_code 119) 66 = .ok (.iconst 2, 1) := by decide +kernel
theorem d119_67 : decode (pg_code 119) 67 = .ok (.iaload, 1) := by decide +kernel
theorem d119_68 : decode (pg_code 119) 68 = .ok (.iadd, 1) := by decide +kernel
theorem d119_69 : decode (pg_code 119) 69 = .ok (.if_icmp .ge 32, 3) := by decide +kernel
theorem d119_72 : decode (pg_code 119) 72 = .ok (.aload_n 0, 1) := by decide +kernel
theorem d119_73 : decode (pg_code 119) 73 = .ok (.iload_n 1, 1) := by decide +kernel
theorem d119_74 : decode (pg_code 119) 74 = .ok (.aload_n 0, 1) := by decide +kernel
theorem d119_75 : decode (pg_code 119) 75 = .ok (.getfield 65, 3) := by decide +kernel
theorem d119_78 : decode (pg_code 119) 78 = .ok (.iload_n 1, 1) := by decide +kernel
theorem d119_79 : decode (pg_code 119) 79 = .ok (.iaload, 1) := by decide +kernel
theorem d119_80 : decode (pg_code 119) 80 = .ok (.aload_n 0, 1) := by decide +kernel
theorem d119_81 : decode (pg_code 119) 81 = .ok (.getfield 68, 3) := by decide +kernel
theorem d119_84 : decode (pg_code 119) 84 = .ok (.iload_n 1, 1) := by decide +kernel
theorem d119_85 : decode (pg_code 119) 85 = .ok (.iaload, 1) := by decide +kernel
theorem d119_86 : decode (pg_code 119) 86 = .ok (.aload_n 0, 1) := by decide +kernel
theorem d119_87 : decode (pg_code 119) 87 = .ok (.getfield 71, 3) := by decide +kernel
theorem d119_90 : decode (pg_code 119) 90 = .ok (.iload_n 1, 1) := by decide +kernel
theorem d119_91 : decode (pg_code 119) 91 = .ok (.iaload, 1) := by decide +kernel
theorem d119_92 : decode (pg_code 119) 92 = .ok (.invokevirtual 214, 3) := by decide +kernel
theorem d119_95 : decode (pg_code 119) 95 = .ok (.iinc 1 1, 3) := by decide +kernel
theorem d119_98 : decode (pg_code 119) 98 = .ok (.goto (-39), 3) := by decide +kernel
theorem d119_101 : decode (pg_code 119) 101 = .ok (.iconst 0, 1) := by decide +kernel
theorem d119_102 : decode (pg_code 119) 102 = .ok (.istore_n 1, 1) := by decide +kernel
theorem d119_103 : decode (pg_code 119) 103 = .ok (.iload_n 1, 1) := by decide +kernel
theorem d119_104 : decode (pg_code 119) 104 = .ok (.bipush 12, 2) := by decide +kernel
theorem d119_106 : decode (pg_code 119) 106 = .ok (.if_icmp .ge 23, 3) := by decide +kernel
theorem d119_109 : decode (pg_code 119) 109 = .ok (.aload_n 0, 1) := by decide +kernel
theorem d119_110 : decode (pg_code 119) 110 = .ok (.getfield 107, 3) := by decide +kernel
theorem d119_113 : decode (pg_code 119) 113 = .ok (.iload_n 1, 1) := by decide +kernel
theorem d119_114 : decode (pg_code 119) 114 = .ok (.iconst 0, 1) := by decide +kernel
theorem d119_115 : decode (pg_code 119) 115 = .ok (.bastore, 1) := by decide +kernel
theorem d119_116 : decode (pg_code 119) 116 = .ok (.aload_n 0, 1) := by decide +kernel
theorem d119_117 : decode (pg_code 119) 117 = .ok (.getfield 110, 3) := by decide +kernel
theorem d119_120 : decode (pg_code 119) 120 = .ok (.iload_n 1, 1) := by decide +kernel
theorem d119_121 : decode (pg_code 119) 121 = .ok (.iconst 0, 1) := by decide +kernel
theorem d119_122 : decode (pg_code 119) 122 = .ok (.iastore, 1) := by decide +kernel
theorem d119_123 : decode (pg_code 119) 123 = .ok (.iinc 1 1, 3) := by decide +kernel
theorem d119_126 : decode (pg_code 119) 126 = .ok (.goto (-23), 3) := by decide +kernel
theorem d119_129 : decode (pg_code 119) 129 = .ok (.iconst 0, 1) := by decide +kernel
theorem d119_130 : decode (pg_code 119) 130 = .ok (.istore_n 1, 1) := by decide +kernel
theorem d119_131 : decode (pg_code 119) 131 = .ok (.iload_n 1, 1) := by decide +kernel
theorem d119_132 : decode (pg_code 119) 132 = .ok (.aload_n 0, 1) := by decide +kernel
theorem d119_133 : decode (pg_code 119) 133 = .ok (.getfield 59, 3) := by decide +kernel
theorem d119_136 : decode (pg_code 119) 136 = .ok (.iconst 3, 1) := by decide +kernel
theorem d119_137 : decode (pg_code 119) 137 = .ok (.iaload, 1) := by decide +kernel
theorem d119_138 : decode (pg_code 119) 138 = .ok (.if_icmp .ge 35, 3) := by decide +kernel
theorem d119_141 : decode (pg_code 119) 141 = .ok (.aload_n 0, 1) := by decide +kernel
theorem d119_142 : decode (pg_code 119) 142 = .ok (.bipush 120, 2) := by decide +kernel
theorem d119_144 : decode (pg_code 119) 144 = .ok (.iload_n 1, 1) := by decide +kernel
theorem d119_145 : decode (pg_code 119) 145 = .ok (.iadd, 1) := by decide +kernel
theorem d119_146 : decode (pg_code 119) 146 = .ok (.aload_n 0, 1) := by decide +kernel
theorem d119_147 : decode (pg_code 119) 147 = .ok (.getfield 7, 3) := by decide +kernel
theorem d119_150 : decode (pg_code 119) 150 = .ok (.iconst 0, 1) := by decide +kernel
theorem d119_151 : decode (pg_code 119) 151 = .ok (.iaload, 1) := by decide +kernel
theorem d119_152 : decode (pg_code 119) 152 = .ok (.invokevirtual 250, 3) := by decide +kernel
theorem d119_155 : decode (pg_code 119) 155 = .ok (.ifCond .ne 12, 3) := by decide +kernel
theorem d119_158 : decode (pg_code 119) 158 = .ok (.aload_n 0, 1) := by decide +kernel
theorem d119_159 : decode (pg_code 119) 159 = .ok (.iconst 0, 1) := by decide +kernel
theorem d119_160 : decode (pg_code 119) 160 = .ok (.putfield 218, 3) := by decide +kernel
theorem d119_163 : decode (pg_code 119) 163 = .ok (.iconst 1, 1) := by decide +kernel
theorem d119_164 : decode (pg_code 119) 164 = .ok (.iload_n 1, 1) := by decide +kernel
theorem d119_165 : decode (pg_code 119) 165 = .ok (.iadd, 1) := by decide +kernel
theorem d119_166 : decode (pg_code 119) 166 = .ok (.ireturn, 1) := by decide +kernel
theorem d119_167 : decode (pg_code 119) 167 = .ok (.iinc 1 1, 3) := by decide +kernel
theorem d119_170 : decode (pg_code 119) 170 = .ok (.goto (-39), 3) := by decide +kernel
theorem d119_173 : decode (pg_code 119) 173 = .ok (.aload_n 0, 1) := by decide +kernel
theorem d119_174 : decode (pg_code 119) 174 = .ok (.iconst 1, 1) := by decide +kernel
theorem d119_175 : decode (pg_code 119) 175 = .ok (.putfield 218, 3) := by decide +kernel
theorem d119_178 : decode (pg_code 119) 178 = .ok (.iconst 0, 1) := by decide +kernel
theorem d119_179 : decode (pg_code 119) 179 = .ok (.ireturn, 1) := by decide +kernel
theorem e119 {b1 : Value} : am_Call L xs d 119 [b1] σ Q = am_Rn L xs d 119 0 [b1, .retAddr 0] [] σ Q := rfl
theorem r119_0  : am_Rn L xs d 119 0 ls st σ Q = am_la ls 0 (fun x => am_Rn L xs d 119 1 ls (x :: st) σ Q) := am_r_aload_n d119_0
theorem r119_1 {p : Nat} : am_Rn L xs d 119 1 ls (.ref p :: st) σ Q = am_fd σ p 6 0 (fun v => am_Rn L xs d 119 4 ls (v :: st) σ Q) := am_r_getfield d119_1 rfl
theorem r119_4  : am_Rn L xs d 119 4 ls st σ Q = am_Rn L xs d 119 5 ls (.int 0 :: st) σ Q := am_r_iconst d119_4 (by decide)
theorem r119_5 {p : Nat} {i : Int32} : am_Rn L xs d 119 5 ls (.int i :: .ref p :: st) σ Q = am_ai 0 σ p i (fun x => am_Rn L xs d 119 6 ls (.int x :: st) σ Q) := am_r_iaload d119_5
theorem r119_6 {a : Int32} : am_Rn L xs d 119 6 ls (.int a :: st) σ Q = if a = 0 then am_Rn L xs d 119 27 ls st σ Q else am_Rn L xs d 119 9 ls st σ Q := (am_r_if (t := 27) d119_6 (by decide)).trans (am_ite _ _ trivial (by simp only [am_cond, decide_eq_true_eq]))
theorem r119_9  : am_Rn L xs d 119 9 ls st σ Q = am_la ls 0 (fun x => am_Rn L xs d 119 10 ls (x :: st) σ Q) := am_r_aload_n d119_9
theorem r119_10 {p : Nat} : am_Rn L xs d 119 10 ls (.ref p :: st) σ Q = am_fd σ p 6 0 (fun v => am_Rn L xs d 119 13 ls (v :: st) σ Q) := am_r_getfield d119_10 rfl
theorem r119_13  : am_Rn L xs d 119 13 ls st σ Q = am_Rn L xs d 119 14 ls (.int 1 :: st) σ Q := am_r_iconst d119_13 (by decide)
theorem r119_14 {p : Nat} {i : Int32} : am_Rn L xs d 119 14 ls (.int i :: .ref p :: st) σ Q = am_ai 0 σ p i (fun x => am_Rn L xs d 119 15 ls (.int x :: st) σ Q) := am_r_iaload d119_14
theorem r119_15 {a : Int32} : am_Rn L xs d 119 15 ls (.int a :: st) σ Q = if a = 0 then am_Rn L xs d 119 27 ls st σ Q else am_Rn L xs d 119 18 ls st σ Q := (am_r_if (t := 27) d119_15 (by decide)).trans (am_ite _ _ trivial (by simp only [am_cond, decide_eq_true_eq]))
theorem r119_18  : am_Rn L xs d 119 18 ls st σ Q = am_la ls 0 (fun x => am_Rn L xs d 119 19 ls (x :: st) σ Q) := am_r_aload_n d119_18
theorem r119_19 {p : Nat} : am_Rn L xs d 119 19 ls (.ref p :: st) σ Q = am_fd σ p 6 0 (fun v => am_Rn L xs d 119 22 ls (v :: st) σ Q) := am_r_getfield d119_19 rfl
theorem r119_22  : am_Rn L xs d 119 22 ls st σ Q = am_Rn L xs d 119 23 ls (.int 2 :: st) σ Q := am_r_iconst d119_22 (by decide)
theorem r119_23 {p : Nat} {i : Int32} : am_Rn L xs d 119 23 ls (.int i :: .ref p :: st) σ Q = am_ai 0 σ p i (fun x => am_Rn L xs d 119 24 ls (.int x :: st) σ Q) := am_r_iaload d119_23
theorem r119_24 {a : Int32} : am_Rn L xs d 119 24 ls (.int a :: st) σ Q = if ¬ a = 0 then am_Rn L xs d 119 29 ls st σ Q else am_Rn L xs d 119 27 ls st σ Q := (am_r_if (t := 29) d119_24 (by decide)).trans (am_ite _ _ trivial (by simp only [am_cond, decide_eq_true_eq]))
theorem r119_27  : am_Rn L xs d 119 27 ls st σ Q = am_Rn L xs d 119 28 ls (.int (-1) :: st) σ Q := am_r_iconst d119_27 (by decide)
theorem r119_28 {v : Int32} : am_Rn L xs d 119 28 ls [.int v] σ Q = Q (some (.int v)) σ := am_r_ireturn d119_28 rfl
theorem r119_29  : am_Rn L xs d 119 29 ls st σ Q = am_la ls 0 (fun x => am_Rn L xs d 119 30 ls (x :: st) σ Q) := am_r_aload_n d119_29
theorem r119_30  : am_Rn L xs d 119 30 ls st σ Q = am_Rn L xs d 119 31 ls (.int 0 :: st) σ Q := am_r_iconst d119_30 (by decide)
theorem r119_31  : am_Rn L xs d 119 31 ls st σ Q = am_Rn L xs d 119 32 ls (.int 1 :: st) σ Q := am_r_iconst d119_31 (by decide)
theorem r119_32 {a1 a2 : Value} {p : Nat} : am_Rn L xs (d + 1) 119 32 ls (a2 :: a1 :: .ref p :: st) σ Q = ((am_oc σ p = 6 ∧ st.length ≤ 4 ∧ am_ok a1 = true ∧ am_ok a2 = true) ∧ am_Call L xs d 94 [.ref p, a1, a2] σ (fun r σ1 => am_Rn L xs (d + 1) 119 35 ls (r.toList ++ st) σ1 Q)) := am_R_virtual2 d119_32 rfl ⟨by decide, rfl⟩ rfl rfl (by decide)
theorem r119_35  : am_Rn L xs d 119 35 ls st σ Q = am_la ls 0 (fun x => am_Rn L xs d 119 36 ls (x :: st) σ Q) := am_r_aload_n d119_35
theorem r119_36  : am_Rn L xs d 119 36 ls st σ Q = am_Rn L xs d 119 37 ls (.int 2 :: st) σ Q := am_r_iconst d119_36 (by decide)
theorem r119_37 {a1 : Value} {p : Nat} : am_Rn L xs (d + 1) 119 37 ls (a1 :: .ref p :: st) σ Q = ((am_oc σ p = 6 ∧ st.length ≤ 4 ∧ am_ok a1 = true) ∧ am_Call L xs d 108 [.ref p, a1] σ (fun r σ1 => am_Rn L xs (d + 1) 119 40 ls (r.toList ++ st) σ1 Q)) := am_R_virtual1 d119_37 rfl ⟨by decide, rfl⟩ rfl rfl (by decide)
theorem r119_40  : am_Rn L xs d 119 40 ls st σ Q = am_la ls 0 (fun x => am_Rn L xs d 119 41 ls (x :: st) σ Q) := am_r_aload_n d119_40
theorem r119_41  : am_Rn L xs d 119 41 ls st σ Q = am_Rn L xs d 119 42 ls (.int 0 :: st) σ Q := am_r_iconst d119_41 (by decide)
theorem r119_42  : am_Rn L xs d 119 42 ls st σ Q = am_Rn L xs d 119 43 ls (.int 2 :: st) σ Q := am_r_iconst d119_42 (by decide)
theorem r119_43 {a1 a2 : Value} {p : Nat} : am_Rn L xs (d + 1) 119 43 ls (a2 :: a1 :: .ref p :: st) σ Q = ((am_oc σ p = 6 ∧ st.length ≤ 4 ∧ am_ok a1 = true ∧ am_ok a2 = true) ∧ am_Call L xs d 94 [.ref p, a1, a2] σ (fun r σ1 => am_Rn L xs (d + 1) 119 46 ls (r.toList ++ st) σ1 Q)) := am_R_virtual2 d119_43 rfl ⟨by decide, rfl⟩ rfl rfl (by decide)
theorem r119_46  : am_Rn L xs d 119 46 ls st σ Q = am_la ls 0 (fun x => am_Rn L xs d 119 47 ls (x :: st) σ Q) := am_r_aload_n d119_46
theorem r119_47  : am_Rn L xs d 119 47 ls st σ Q = am_Rn L xs d 119 48 ls (.int 3 :: st) σ Q := am_r_iconst d119_47 (by decide)
theorem r119_48 {a1 : Value} {p : Nat} : am_Rn L xs (d + 1) 119 48 ls (a1 :: .ref p :: st) σ Q = ((am_oc σ p = 6 ∧ st.length ≤ 4 ∧ am_ok a1 = true) ∧ am_Call L xs d 108 [.ref p, a1] σ (fun r σ1 => am_Rn L xs (d + 1) 119 51 ls (r.toList ++ st) σ1 Q)) := am_R_virtual1 d119_48 rfl ⟨by decide, rfl⟩ rfl rfl (by decide)
theorem r119_51  : am_Rn L xs d 119 51 ls st σ Q = am_la ls 0 (fun x => am_Rn L xs d 119 52 ls (x :: st) σ Q) := am_r_aload_n d119_51
theorem r119_52  : am_Rn L xs d 119 52 ls st σ Q = am_Rn L xs d 119 53 ls (.int 0 :: st) σ Q := am_r_iconst d119_52 (by decide)
theorem r119_53 {a1 : Value} {p : Nat} : am_Rn L xs (d + 1) 119 53 ls (a1 :: .ref p :: st) σ Q = ((am_oc σ p = 6 ∧ st.length ≤ 4 ∧ am_ok a1 = true) ∧ am_Call L xs d 113 [.ref p, a1] σ (fun r σ1 => am_Rn L xs (d + 1) 119 56 ls (r.toList ++ st) σ1 Q)) := am_R_virtual1 d119_53 rfl ⟨by decide, rfl⟩ rfl rfl (by decide)
theorem r119_56  : am_Rn L xs d 119 56 ls st σ Q = am_Rn L xs d 119 58 ls (.int 80 :: st) σ Q := am_r_bipush d119_56 (by decide)
theorem r119_58 {x : Int32} : am_Rn L xs d 119 58 ls (.int x :: st) σ Q = (1 < ls.length ∧ am_Rn L xs d 119 59 (ls.set 1 (.int x)) st σ Q) := am_r_istore_n d119_58
theorem r119_59  : am_Rn L xs d 119 59 ls st σ Q = am_li ls 1 (fun x => am_Rn L xs d 119 60 ls (.int x :: st) σ Q) := am_r_iload_n d119_59
theorem r119_60  : am_Rn L xs d 119 60 ls st σ Q = am_Rn L xs d 119 62 ls (.int 80 :: st) σ Q := am_r_bipush d119_60 (by decide)
theorem r119_62  : am_Rn L xs d 119 62 ls st σ Q = am_la ls 0 (fun x => am_Rn L xs d 119 63 ls (x :: st) σ Q) := am_r_aload_n d119_62
theorem r119_63 {p : Nat} : am_Rn L xs d 119 63 ls (.ref p :: st) σ Q = am_fd σ p 6 18 (fun v => am_Rn L xs d 119 66 ls (v :: st) σ Q) := am_r_getfield d119_63 rfl
theorem r119_66  : am_Rn L xs d 119 66 ls st σ Q = am_Rn L xs d 119 67 ls (.int 2 :: st) σ Q := am_r_iconst d119_66 (by decide)
theorem r119_67 {p : Nat} {i : Int32} : am_Rn L xs d 119 67 ls (.int i :: .ref p :: st) σ Q = am_ai 0 σ p i (fun x => am_Rn L xs d 119 68 ls (.int x :: st) σ Q) := am_r_iaload d119_67
theorem r119_68 {a b : Int32} : am_Rn L xs d 119 68 ls (.int b :: .int a :: st) σ Q = am_Rn L xs d 119 69 ls (.int (a + b) :: st) σ Q := am_r_iadd d119_68
theorem r119_69 {a b : Int32} : am_Rn L xs d 119 69 ls (.int b :: .int a :: st) σ Q = if b ≤ a then am_Rn L xs d 119 101 ls st σ Q else am_Rn L xs d 119 72 ls st σ Q := (am_r_icmp (t := 101) d119_69 (by decide)).trans (am_ite _ _ trivial (by simp only [am_cond, decide_eq_true_eq]))
theorem r119_72  : am_Rn L xs d 119 72 ls st σ Q = am_la ls 0 (fun x => am_Rn L xs d 119 73 ls (x :: st) σ Q) := am_r_aload_n d119_72
theorem r119_73  : am_Rn L xs d 119 73 ls st σ Q = am_li ls 1 (fun x => am_Rn L xs d 119 74 ls (.int x :: st) σ Q) := am_r_iload_n d119_73
theorem r119_74  : am_Rn L xs d 119 74 ls st σ Q = am_la ls 0 (fun x => am_Rn L xs d 119 75 ls (x :: st) σ Q) := am_r_aload_n d119_74
theorem r119_75 {p : Nat} : am_Rn L xs d 119 75 ls (.ref p :: st) σ Q = am_fd σ p 6 20 (fun v => am_Rn L xs d 119 78 ls (v :: st) σ Q) := am_r_getfield d119_75 rfl
theorem r119_78  : am_Rn L xs d 119 78 ls st σ Q = am_li ls 1 (fun x => am_Rn L xs d 119 79 ls (.int x :: st) σ Q) := am_r_iload_n d119_78
theorem r119_79 {p : Nat} {i : Int32} : am_Rn L xs d 119 79 ls (.int i :: .ref p :: st) σ Q = am_ai 0 σ p i (fun x => am_Rn L xs d 119 80 ls (.int x :: st) σ Q) := am_r_iaload d119_79
theorem r119_80  : am_Rn L xs d 119 80 ls st σ Q = am_la ls 0 (fun x => am_Rn L xs d 119 81 ls (x :: st) σ Q) := am_r_aload_n d119_80
theorem r119_81 {p : Nat} : am_Rn L xs d 119 81 ls (.ref p :: st) σ Q = am_fd σ p 6 21 (fun v => am_Rn L xs d 119 84 ls (v :: st) σ Q) := am_r_getfield d119_81 rfl
theorem r119_84  : am_Rn L xs d 119 84 ls st σ Q = am_li ls 1 (fun x => am_Rn L xs d 119 85 ls (.int x :: st) σ Q) := am_r_iload_n d119_84
theorem r119_85 {p : Nat} {i : Int32} : am_Rn L xs d 119 85 ls (.int i :: .ref p :: st) σ Q = am_ai 0 σ p i (fun x => am_Rn L xs d 119 86 ls (.int x :: st) σ Q) := am_r_iaload d119_85
theorem r119_86  : am_Rn L xs d 119 86 ls st σ Q = am_la ls 0 (fun x => am_Rn L xs d 119 87 ls (x :: st) σ Q) := am_r_aload_n d119_86
theorem r119_87 {p : Nat} : am_Rn L xs d 119 87 ls (.ref p :: st) σ Q = am_fd σ p 6 22 (fun v => am_Rn L xs d 119 90 ls (v :: st) σ Q) := am_r_getfield d119_87 rfl
theorem r119_90  : am_Rn L xs d 119 90 ls st σ Q = am_li ls 1 (fun x => am_Rn L xs d 119 91 ls (.int x :: st) σ Q) := am_r_iload_n d119_90
theorem r119_91 {p : Nat} {i : Int32} : am_Rn L xs d 119 91 ls (.int i :: .ref p :: st) σ Q = am_ai 0 σ p i (fun x => am_Rn L xs d 119 92 ls (.int x :: st) σ Q) := am_r_iaload d119_91
theorem r119_92 {a1 a2 a3 a4 : Value} {p : Nat} : am_Rn L xs (d + 1) 119 92 ls (a4 :: a3 :: a2 :: a1 :: .ref p :: st) σ Q = ((am_oc σ p = 6 ∧ st.length ≤ 4 ∧ am_ok a1 = true ∧ am_ok a2 = true ∧ am_ok a3 = true ∧ am_ok a4 = true) ∧ am_Call L xs d 114 [.ref p, a1, a2, a3, a4] σ (fun r σ1 => am_Rn L xs (d + 1) 119 95 ls (r.toList ++ st) σ1 Q)) := am_R_virtual4 d119_92 rfl ⟨by decide, rfl⟩ rfl rfl (by decide)
theorem r119_95  : am_Rn L xs d 119 95 ls st σ Q = am_li ls 1 (fun x => am_Rn L xs d 119 98 (ls.set 1 (.int (x + 1))) st σ Q) := am_r_iinc d119_95 (by decide)
theorem r119_98  : am_Rn L xs d 119 98 ls st σ Q = am_Rn L xs d 119 59 ls st σ Q := am_r_goto d119_98 (by decide)
theorem r119_101  : am_Rn L xs d 119 101 ls st σ Q = am_Rn L xs d 119 102 ls (.int 0 :: st) σ Q := am_r_iconst d119_101 (by decide)
theorem r119_102 {x : Int32} : am_Rn L xs d 119 102 ls (.int x :: st) σ Q = (1 < ls.length ∧ am_Rn L xs d 119 103 (ls.set 1 (.int x)) st σ Q) := am_r_istore_n d119_102
theorem r119_103  : am_Rn L xs d 119 103 ls st σ Q = am_li ls 1 (fun x => am_Rn L xs d 119 104 ls (.int x :: st) σ Q) := am_r_iload_n d119_103
theorem r119_104  : am_Rn L xs d 119 104 ls st σ Q = am_Rn L xs d 119 106 ls (.int 12 :: st) σ Q := am_r_bipush d119_104 (by decide)
theorem r119_106 {a b : Int32} : am_Rn L xs d 119 106 ls (.int b :: .int a :: st) σ Q = if b ≤ a then am_Rn L xs d 119 129 ls st σ Q else am_Rn L xs d 119 109 ls st σ Q := (am_r_icmp (t := 129) d119_106 (by decide)).trans (am_ite _ _ trivial (by simp only [am_cond, decide_eq_true_eq]))
theorem r119_109  : am_Rn L xs d 119 109 ls st σ Q = am_la ls 0 (fun x => am_Rn L xs d 119 110 ls (x :: st) σ Q) := am_r_aload_n d119_109
theorem r119_110 {p : Nat} : am_Rn L xs d 119 110 ls (.ref p :: st) σ Q = am_fd σ p 6 38 (fun v => am_Rn L xs d 119 113 ls (v :: st) σ Q) := am_r_getfield d119_110 rfl
theorem r119_113  : am_Rn L xs d 119 113 ls st σ Q = am_li ls 1 (fun x => am_Rn L xs d 119 114 ls (.int x :: st) σ Q) := am_r_iload_n d119_113
theorem r119_114  : am_Rn L xs d 119 114 ls st σ Q = am_Rn L xs d 119 115 ls (.int 0 :: st) σ Q := am_r_iconst d119_114 (by decide)
theorem r119_115 {p : Nat} {i x : Int32} : am_Rn L xs d 119 115 ls (.int x :: .int i :: .ref p :: st) σ Q = am_wi 1 σ p i (vp_nar .boolean x) (fun σ1 => am_Rn L xs d 119 116 ls st σ1 Q) := am_r_bastore d119_115
theorem r119_116  : am_Rn L xs d 119 116 ls st σ Q = am_la ls 0 (fun x => am_Rn L xs d 119 117 ls (x :: st) σ Q) := am_r_aload_n d119_116
theorem r119_117 {p : Nat} : am_Rn L xs d 119 117 ls (.ref p :: st) σ Q = am_fd σ p 6 39 (fun v => am_Rn L xs d 119 120 ls (v :: st) σ Q) := am_r_getfield d119_117 rfl
theorem r119_120  : am_Rn L xs d 119 120 ls st σ Q = am_li ls 1 (fun x => am_Rn L xs d 119 121 ls (.int x :: st) σ Q) := am_r_iload_n d119_120
theorem r119_121  : am_Rn L xs d 119 121 ls st σ Q = am_Rn L xs d 119 122 ls (.int 0 :: st) σ Q := am_r_iconst d119_121 (by decide)
theorem r119_122 {p : Nat} {i x : Int32} : am_Rn L xs d 119 122 ls (.int x :: .int i :: .ref p :: st) σ Q = am_wi 0 σ p i x (fun σ1 => am_Rn L xs d 119 123 ls st σ1 Q) := am_r_iastore d119_122
theorem r119_123  : am_Rn L xs d 119 123 ls st σ Q = am_li ls 1 (fun x => am_Rn L xs d 119 126 (ls.set 1 (.int (x + 1))) st σ Q) := am_r_iinc d119_123 (by decide)
theorem r119_126  : am_Rn L xs d 119 126 ls st σ Q = am_Rn L xs d 119 103 ls st σ Q := am_r_goto d119_126 (by decide)
theorem r119_129  : am_Rn L xs d 119 129 ls st σ Q = am_Rn L xs d 119 130 ls (.int 0 :: st) σ Q := am_r_iconst d119_129 (by decide)
theorem r119_130 {x : Int32} : am_Rn L xs d 119 130 ls (.int x :: st) σ Q = (1 < ls.length ∧ am_Rn L xs d 119 131 (ls.set 1 (.int x)) st σ Q) := am_r_istore_n d119_130
theorem r119_131  : am_Rn L xs d 119 131 ls st σ Q = am_li ls 1 (fun x => am_Rn L xs d 119 132 ls (.int x :: st) σ Q) := am_r_iload_n d119_131
theorem r119_132  : am_Rn L xs d 119 132 ls st σ Q = am_la ls 0 (fun x => am_Rn L xs d 119 133 ls (x :: st) σ Q) := am_r_aload_n d119_132
theorem r119_133 {p : Nat} : am_Rn L xs d 119 133 ls (.ref p :: st) σ Q = am_fd σ p 6 18 (fun v => am_Rn L xs d 119 136 ls (v :: st) σ Q) := am_r_getfield d119_133 rfl
theorem r119_136  : am_Rn L xs d 119 136 ls st σ Q = am_Rn L xs d 119 137 ls (.int 3 :: st) σ Q := am_r_iconst d119_136 (by decide)
theorem r119_137 {p : Nat} {i : Int32} : am_Rn L xs d 119 137 ls (.int i :: .ref p :: st) σ Q = am_ai 0 σ p i (fun x => am_Rn L xs d 119 138 ls (.int x :: st) σ Q) := am_r_iaload d119_137
theorem r119_138 {a b : Int32} : am_Rn L xs d 119 138 ls (.int b :: .int a :: st) σ Q = if b ≤ a then am_Rn L xs d 119 173 ls st σ Q else am_Rn L xs d 119 141 ls st σ Q := (am_r_icmp (t := 173) d119_138 (by decide)).trans (am_ite _ _ trivial (by simp only [am_cond, decide_eq_true_eq]))
theorem r119_141  : am_Rn L xs d 119 141 ls st σ Q = am_la ls 0 (fun x => am_Rn L xs d 119 142 ls (x :: st) σ Q) := am_r_aload_n d119_141
theorem r119_142  : am_Rn L xs d 119 142 ls st σ Q = am_Rn L xs d 119 144 ls (.int 120 :: st) σ Q := am_r_bipush d119_142 (by decide)
theorem r119_144  : am_Rn L xs d 119 144 ls st σ Q = am_li ls 1 (fun x => am_Rn L xs d 119 145 ls (.int x :: st) σ Q) := am_r_iload_n d119_144
theorem r119_145 {a b : Int32} : am_Rn L xs d 119 145 ls (.int b :: .int a :: st) σ Q = am_Rn L xs d 119 146 ls (.int (a + b) :: st) σ Q := am_r_iadd d119_145
theorem r119_146  : am_Rn L xs d 119 146 ls st σ Q = am_la ls 0 (fun x => am_Rn L xs d 119 147 ls (x :: st) σ Q) := am_r_aload_n d119_146
theorem r119_147 {p : Nat} : am_Rn L xs d 119 147 ls (.ref p :: st) σ Q = am_fd σ p 6 0 (fun v => am_Rn L xs d 119 150 ls (v :: st) σ Q) := am_r_getfield d119_147 rfl
theorem r119_150  : am_Rn L xs d 119 150 ls st σ Q = am_Rn L xs d 119 151 ls (.int 0 :: st) σ Q := am_r_iconst d119_150 (by decide)
theorem r119_151 {p : Nat} {i : Int32} : am_Rn L xs d 119 151 ls (.int i :: .ref p :: st) σ Q = am_ai 0 σ p i (fun x => am_Rn L xs d 119 152 ls (.int x :: st) σ Q) := am_r_iaload d119_151
theorem r119_152 {a1 a2 : Value} {p : Nat} : am_Rn L xs (d + 1) 119 152 ls (a2 :: a1 :: .ref p :: st) σ Q = ((am_oc σ p = 6 ∧ st.length ≤ 4 ∧ am_ok a1 = true ∧ am_ok a2 = true) ∧ am_Call L xs d 120 [.ref p, a1, a2] σ (fun r σ1 => am_Rn L xs (d + 1) 119 155 ls (r.toList ++ st) σ1 Q)) := am_R_virtual2 d119_152 rfl ⟨by decide, rfl⟩ rfl rfl (by decide)
theorem r119_155 {a : Int32} : am_Rn L xs d 119 155 ls (.int a :: st) σ Q = if ¬ a = 0 then am_Rn L xs d 119 167 ls st σ Q else am_Rn L xs d 119 158 ls st σ Q := (am_r_if (t := 167) d119_155 (by decide)).trans (am_ite _ _ trivial (by simp only [am_cond, decide_eq_true_eq]))
theorem r119_158  : am_Rn L xs d 119 158 ls st σ Q = am_la ls 0 (fun x => am_Rn L xs d 119 159 ls (x :: st) σ Q) := am_r_aload_n d119_158
theorem r119_159  : am_Rn L xs d 119 159 ls st σ Q = am_Rn L xs d 119 160 ls (.int 0 :: st) σ Q := am_r_iconst d119_159 (by decide)
theorem r119_160 {p : Nat} {v : Value} : am_Rn L xs d 119 160 ls (v :: .ref p :: st) σ Q = am_wf 119 6 σ p 6 28 v (fun σ1 => am_Rn L xs d 119 163 ls st σ1 Q) := am_r_putfield d119_160 rfl
theorem r119_163  : am_Rn L xs d 119 163 ls st σ Q = am_Rn L xs d 119 164 ls (.int 1 :: st) σ Q := am_r_iconst d119_163 (by decide)
theorem r119_164  : am_Rn L xs d 119 164 ls st σ Q = am_li ls 1 (fun x => am_Rn L xs d 119 165 ls (.int x :: st) σ Q) := am_r_iload_n d119_164
theorem r119_165 {a b : Int32} : am_Rn L xs d 119 165 ls (.int b :: .int a :: st) σ Q = am_Rn L xs d 119 166 ls (.int (a + b) :: st) σ Q := am_r_iadd d119_165
theorem r119_166 {v : Int32} : am_Rn L xs d 119 166 ls [.int v] σ Q = Q (some (.int v)) σ := am_r_ireturn d119_166 rfl
theorem r119_167  : am_Rn L xs d 119 167 ls st σ Q = am_li ls 1 (fun x => am_Rn L xs d 119 170 (ls.set 1 (.int (x + 1))) st σ Q) := am_r_iinc d119_167 (by decide)
theorem r119_170  : am_Rn L xs d 119 170 ls st σ Q = am_Rn L xs d 119 131 ls st σ Q := am_r_goto d119_170 (by decide)
theorem r119_173  : am_Rn L xs d 119 173 ls st σ Q = am_la ls 0 (fun x => am_Rn L xs d 119 174 ls (x :: st) σ Q) := am_r_aload_n d119_173
theorem r119_174  : am_Rn L xs d 119 174 ls st σ Q = am_Rn L xs d 119 175 ls (.int 1 :: st) σ Q := am_r_iconst d119_174 (by decide)
theorem r119_175 {p : Nat} {v : Value} : am_Rn L xs d 119 175 ls (v :: .ref p :: st) σ Q = am_wf 119 6 σ p 6 28 v (fun σ1 => am_Rn L xs d 119 178 ls st σ1 Q) := am_r_putfield d119_175 rfl
theorem r119_178  : am_Rn L xs d 119 178 ls st σ Q = am_Rn L xs d 119 179 ls (.int 0 :: st) σ Q := am_r_iconst d119_178 (by decide)
theorem r119_179 {v : Int32} : am_Rn L xs d 119 179 ls [.int v] σ Q = Q (some (.int v)) σ := am_r_ireturn d119_179 rfl
theorem d120_0 : decode (pg_code 120) 0 = .ok (.aload_n 0, 1) := by decide +kernel
theorem d120_1 : decode (pg_code 120) 1 = .ok (.getfield 62, 3) := by decide +kernel
theorem d120_4 : decode (pg_code 120) 4 = .ok (.iload_n 1, 1) := by decide +kernel
theorem d120_5 : decode (pg_code 120) 5 = .ok (.iaload, 1) := by decide +kernel
theorem d120_6 : decode (pg_code 120) 6 = .ok (.ifCond .ne 12, 3) := by decide +kernel
theorem d120_9 : decode (pg_code 120) 9 = .ok (.aload_n 0, 1) := by decide +kernel
theorem d120_10 : decode (pg_code 120) 10 = .ok (.getfield 65, 3) := by decide +kernel
theorem d120_13 : decode (pg_code 120) 13 = .ok (.iload_n 1, 1) := by decide +kernel
theorem d120_14 : decode (pg_code 120) 14 = .ok (.iaload, 1) := by decide +kernel
theorem d120_15 : decode (pg_code 120) 15 = .ok (.goto 14, 3) := by decide +kernel
theorem d120_18 : decode (pg_code 120) 18 = .ok (.aload_n 0, 1) := by decide +kernel
theorem d120_19 : decode (pg_code 120) 19 = .ok (.aload_n 0, 1) := by decide +kernel
theorem d120_20 : decode (pg_code 120) 20 = .ok (.getfield 65, 3) := by decide +kernel
theorem d120_23 : decode (pg_code 120) 23 = .ok (.iload_n 1, 1) := by decide +kernel
theorem d120_24 : decode (pg_code 120) 24 = .ok (.iaload, 1) := by decide +kernel
theorem d120_25 : decode (pg_code 120) 25 = .ok (.iload_n 2, 1) := by decide +kernel
theorem d120_26 : decode (pg_code 120) 26 = .ok (.invokevirtual 227, 3) := by decide +kernel
theorem d120_29 : decode (pg_code 120) 29 = .ok (.istore_n 3, 1) := by decide +kernel
theorem d120_30 : decode (pg_code 120) 30 = .ok (.aload_n 0, 1) := by decide +kernel
theorem d120_31 : decode (pg_code 120) 31 = .ok (.getfield 68, 3) := by decide +kernel
theorem d120_34 : decode (pg_code 120) 34 = .ok (.iload_n 1, 1) := by decide +kernel
theorem d120_35 : decode (pg_code 120) 35 = .ok (.iaload, 1) := by decide +kernel
theorem d120_36 : decode (pg_code 120) 36 = .ok (.ifCond .ge 7, 3) := by decide +kernel
theorem d120_39 : decode (pg_code 120) 39 = .ok (.iconst (-1), 1) := by decide +kernel
theorem d120_40 : decode (pg_code 120) 40 = .ok (.goto 14, 3) := by decide +kernel
theorem d120_43 : decode (pg_code 120) 43 = .ok (.aload_n 0, 1) := by decide +kernel
theorem d120_44 : decode (pg_code 120) 44 = .ok (.aload_n 0, 1) := by decide +kernel
theorem d120_45 : decode (pg_code 120) 45 = .ok (.getfield 68, 3) := by decide +kernel
theorem d120_48 : decode (pg_code 120) 48 = .ok (.iload_n 1, 1) := by decide +kernel
theorem d120_49 : decode (pg_code 120) 49 = .ok (.iaload, 1) := by decide +kernel
theorem d120_50 : decode (pg_code 120) 50 = .ok (.iload_n 2, 1) := by decide +kernel
theorem d120_51 : decode (pg_code 120) 51 = .ok (.invokevirtual 227, 3) := by decide +kernel
theorem d120_54 : decode (pg_code 120) 54 = .ok (.istore 4, 2) := by decide +kernel
theorem d120_56 : decode (pg_code 120) 56 = .ok (.aload_n 0, 1) := by decide +kernel
theorem d120_57 : decode (pg_code 120) 57 = .ok (.getfield 71, 3) := by decide +kernel
theorem d120_60 : decode (pg_code 120) 60 = .ok (.iload_n 1, 1) := by decide +kernel
theorem d120_61 : decode (pg_code 120) 61 = .ok (.iaload, 1) := by decide +kernel
theorem d120_62 : decode (pg_code 120) 62 = .ok (.ifCond .ge 7, 3) := by decide +kernel
theorem d120_65 : decode (pg_code 120) 65 = .ok (.iconst (-1), 1) := by decide +kernel
theorem d120_66 : decode (pg_code 120) 66 = .ok (.goto 14, 3) := by decide +kernel
theorem d120_69 : decode (pg_code 120) 69 = .ok (.aload_n 0, 1) := by decide +kernel
theorem d120_70 : decode (pg_code 120) 70 = .ok (.aload_n 0, 1) := by decide +kernel
theorem d120_71 : decode (pg_code 120) 71 = .ok (.getfield 71, 3) := by decide +kernel
theorem d120_74 : decode (pg_code 120) 74 = .ok (.iload_n 1, 1) := by decide +kernel
theorem d120_75 : decode (pg_code 120) 75 = .ok (.iaload, 1) := by decide +kernel
theorem d120_76 : decode (pg_code 120) 76 = .ok (.iload_n 2, 1) := by decide +kernel
theorem d120_77 : decode (pg_code 120) 77 = .ok (.invokevirtual 227, 3) := by decide +kernel
theorem d120_80 : decode (pg_code 120) 80 = .ok (.istore 5, 2) := by decide +kernel
theorem d120_82 : decode (pg_code 120) 82 = .ok (.aload_n 0, 1) := by decide +kernel
theorem d120_83 : decode (pg_code 120) 83 = .ok (.getfield 62, 3) := by decide +kernel
theorem d120_86 : decode (pg_code 120) 86 = .ok (.iload_n 1, 1) := by decide +kernel
theorem d120_87 : decode (pg_code 120) 87 = .ok (.iaload, 1) := by decide +kernel
theorem d120_88 : decode (pg_code 120) 88 = .ok (.ifCond .ne 14, 3) := by decide +kernel
theorem d120_91 : decode (pg_code 120) 91 = .ok (.aload_n 0, 1) := by decide +kernel
theorem d120_92 : decode (pg_code 120) 92 = .ok (.iload_n 1, 1) := by decide +kernel
theorem d120_93 : decode (pg_code 120) 93 = .ok (.iload_n 2, 1) := by decide +kernel
theorem d120_94 : decode (pg_code 120) 94 = .ok (.iload 4, 2) := by decide +kernel
theorem d120_96 : decode (pg_code 120) 96 = .ok (.iload 5, 2) := by decide +kernel
theorem d120_98 : decode (pg_code 120) 98 = .ok (.invokevirtual 230, 3) := by decide +kernel
theorem d120_101 : decode (pg_code 120) 101 = .ok (.ireturn, 1) := by decide +kernel
theorem d120_102 : decode (pg_code 120) 102 = .ok (.aload_n 0, 1) := by decide +kernel
theorem d120_103 : decode (pg_code 120) 103 = .ok (.getfield 62, 3) := by decide +kernel
theorem d120_106 : decode (pg_code 120) 106 = .ok (.iload_n 1, 1) := by decide +kernel
theorem d120_107 : decode (pg_code 120) 107 = .ok (.iaload, 1) := by decide +kernel
theorem d120_108 : decode (pg_code 120) 108 = .ok (.iconst 3, 1) := by decide +kernel
theorem d120_109 : decode (pg_code 120) 109 = .ok (.if_icmp .ne 54, 3) := by decide +kernel
theorem d120_112 : decode (pg_code 120) 112 = .ok (.aload_n 0, 1) := by decide +kernel
theorem d120_113 : decode (pg_code 120) 113 = .ok (.iconst 3, 1) := by decide +kernel
theorem d120_114 : decode (pg_code 120) 114 = .ok (.iload_n 3, 1) := by decide +kernel
theorem d120_115 : decode (pg_code 120) 115 = .ok (.invokevirtual 234, 3) := by decide +kernel
theorem d120_118 : decode (pg_code 120) 118 = .ok (.ifCond .lt 5, 3) := by decide +kernel
theorem d120_121 : decode (pg_code 120) 121 = .ok (.iconst 1, 1) := by decide +kernel
theorem d120_122 : decode (pg_code 120) 122 = .ok (.ireturn, 1) := by decide +kernel
theorem d120_123 : decode (pg_code 120) 123 = .ok (.aload_n 0, 1) := by decide +kernel
theorem d120_124 : decode (pg_code 120) 124 = .ok (.iconst 1, 1) := by decide +kernel
theorem d120_125 : decode (pg_code 120) 125 = .ok (.iload_n 3, 1) := by decide +kernel
theorem d120_126 : decode (pg_code 120) 126 = .ok (.invokevirtual 234, 3) := by decide +kernel
theorem d120_129 : decode (pg_code 120) 129 = .ok (.ifCond .ge 20, 3) := by decide +kernel
theorem d120_132 : decode (pg_code 120) 132 = .ok (.aload_n 0, 1) := by decide +kernel
theorem d120_133 : decode (pg_code 120) 133 = .ok (.iconst 2, 1) := by decide +kernel
theorem d120_134 : decode (pg_code 120) 134 = .ok (.iload_n 3, 1) := by decide +kernel
theorem d120_135 : decode (pg_code 120) 135 = .ok (.invokevirtual 234, 3) := by decide +kernel
theorem d120_138 : decode (pg_code 120) 138 = .ok (.ifCond .ge 11, 3) := by decide +kernel
theorem d120_141 : decode (pg_code 120) 141 = .ok (.aload_n 0, 1) := by decide +kernel
theorem d120_142 : decode (pg_code 120) 142 = .ok (.iload_n 3, 1) := by decide +kernel
theorem d120_143 : decode (pg_code 120) 143 = .ok (.invokevirtual 237, 3) := by decide +kernel
theorem d120_146 : decode (pg_code 120) 146 = .ok (.ifCond .eq 5, 3) := by decide +kernel
theorem d120_149 : decode (pg_code 120) 149 = .ok (.iconst 0, 1) := by decide +kernel
theorem d120_150 : decode (pg_code 120) 150 = .ok (.ireturn, 1) := by decide +kernel
theorem d120_151 : decode (pg_code 120) 151 = .ok (.aload_n 0, 1) := by decide +kernel
theorem d120_152 : decode (pg_code 120) 152 = .ok (.iload_n 1, 1) := by decide +kernel
theorem d120_153 : decode (pg_code 120) 153 = .ok (.iload_n 3, 1) := by decide +kernel
theorem d120_154 : decode (pg_code 120) 154 = .ok (.iload 4, 2) := by decide +kernel
theorem d120_156 : decode (pg_code 120) 156 = .ok (.iload 5, 2) := by decide +kernel
theorem d120_158 : decode (pg_code 120) 158 = .ok (.invokevirtual 214, 3) := by decide +kernel
theorem d120_161 : decode (pg_code 120) 161 = .ok (.iconst 1, 1) := by decide +kernel
theorem d120_162 : decode (pg_code 120) 162 = .ok (.ireturn, 1) := by decide +kernel
theorem d120_163 : decode (pg_code 120) 163 = .ok (.aload_n 0, 1) := by decide +kernel
theorem d120_164 : decode (pg_code 120) 164 = .ok (.getfield 86, 3) := by decide +kernel
theorem d120_167 : decode (pg_code 120) 167 = .ok (.iload_n 3, 1) := by decide +kernel
theorem d120_168 : decode (pg_code 120) 168 = .ok (.baload, 1) := by decide +kernel
theorem d120_169 : decode (pg_code 120) 169 = .ok (.ifCond .ne 5, 3) := by decide +kernel
theorem d120_172 : decode (pg_code 120) 172 = .ok (.iconst 0, 1) := by decide +kernel
theorem d120_173 : decode (pg_code 120) 173 = .ok (.ireturn, 1) := by decide +kernel
theorem d120_174 : decode (pg_code 120) 174 = .ok (.aload_n 0, 1) := by decide +kernel
theorem d120_175 : decode (pg_code 120) 175 = .ok (.aload_n 0, 1) := by decide +kernel
theorem d120_176 : decode (pg_code 120) 176 = .ok (.getfield 62, 3) := by decide +kernel
theorem d120_179 : decode (pg_code 120) 179 = .ok (.iload_n 1, 1) := by decide +kernel
theorem d120_180 : decode (pg_code 120) 180 = .ok (.iaload, 1) := by decide +kernel
theorem d120_181 : decode (pg_code 120) 181 = .ok (.iload_n 3, 1) := by decide +kernel
theorem d120_182 : decode (pg_code 120) 182 = .ok (.invokevirtual 234, 3) := by decide +kernel
theorem d120_185 : decode (pg_code 120) 185 = .ok (.istore 6, 2) := by decide +kernel
theorem d120_187 : decode (pg_code 120) 187 = .ok (.aload_n 0, 1) := by decide +kernel
theorem d120_188 : decode (pg_code 120) 188 = .ok (.getfield 62, 3) := by decide +kernel
theorem d120_191 : decode (pg_code 120) 191 = .ok (.iload_n 1, 1) := by decide +kernel
theorem d120_192 : decode (pg_code 120) 192 = .ok (.iaload, 1) := by decide +kernel
theorem d120_193 : decode (pg_code 120) 193 = .ok (.iconst 1, 1) := by decide +kernel
theorem d120_194 : decode (pg_code 120) 194 = .ok (.if_icmp .ne 30, 3) := by decide +kernel
theorem d120_197 : decode (pg_code 120) 197 = .ok (.iload 6, 2) := by decide +kernel
theorem d120_199 : decode (pg_code 120) 199 = .ok (.ifCond .lt 88, 3) := by decide +kernel
theorem d120_202 : decode (pg_code 120) 202 = .ok (.aload_n 0, 1) := by decide +kernel
theorem d120_203 : decode (pg_code 120) 203 = .ok (.getfield 77, 3) := by decide +kernel
theorem d120_206 : decode (pg_code 120) 206 = .ok (.iload 6, 2) := by decide +kernel
theorem d120_208 : decode (pg_code 120) 208 = .ok (.iaload, 1) := by decide +kernel
theorem d120_209 : decode (pg_code 120) 209 = .ok (.aload_n 0, 1) := by decide +kernel
theorem d120_210 : decode (pg_code 120) 210 = .ok (.getfield 77, 3) := by decide +kernel
theorem d120_213 : decode (pg_code 120) 213 = .ok (.iload_n 1, 1) := by decide +kernel
theorem d120_214 : decode (pg_code 120) 214 = .ok (.iaload, 1) := by decide +kernel
theorem d120_215 : decode (pg_code 120) 215 = .ok (.if_icmp .ne 7, 3) := by decide +kernel
theorem d120_218 : decode (pg_code 120) 218 = .ok (.iconst 1, 1) := by decide +kernel
theorem d120_219 : decode (pg_code 120) 219 = .ok (.goto 4, 3) := by decide +kernel
theorem d120_222 : decode (pg_code 120) 222 = .ok (.iconst 0, 1) := by decide +kernel
theorem d120_223 : decode (pg_code 120) 223 = .ok (.ireturn, 1) := by decide +kernel
theorem d120_224 : decode (pg_code 120) 224 = .ok (.iload 6, 2) := by decide +kernel
theorem d120_226 : decode (pg_code 120) 226 = .ok (.ifCond .lt 33, 3) := by decide +kernel
theorem d120_229 : decode (pg_code 120) 229 = .ok (.aload_n 0, 1) := by decide +kernel
theorem d120_230 : decode (pg_code 120) 230 = .ok (.getfield 68, 3) := by decide +kernel
theorem d120_233 : decode (pg_code 120) 233 = .ok (.iload 6, 2) := by decide +kernel
theorem d120_235 : decode (pg_code 120) 235 = .ok (.iaload, 1) := by decide +kernel
theorem d120_236 : decode (pg_code 120) 236 = .ok (.iload 4, 2) := by decide +kernel
theorem d120_238 : decode (pg_code 120) 238 = .ok (.if_icmp .ne 19, 3) := by decide +kernel
theorem d120_241 : decode (pg_code 120) 241 = .ok (.aload_n 0, 1) := by decide +kernel
theorem d120_242 : decode (pg_code 120) 242 = .ok (.getfield 71, 3) := by decide +kernel
theorem d120_245 : decode (pg_code 120) 245 = .ok (.iload 6, 2) := by decide +kernel
theorem d120_247 : decode (pg_code 120) 247 = .ok (.iaload, 1) := by decide +kernel
theorem d120_248 : decode (pg_code 120) 248 = .ok (.iload 5, 2) := by decide +kernel
theorem d120_250 : decode (pg_code 120) 250 = .ok (.if_icmp .ne 7, 3) := by decide +kernel
theorem d120_253 : decode (pg_code 120) 253 = .ok (.iconst 1, 1) := by decide +kernel
theorem d120_254 : decode (pg_code 120) 254 = .ok (.goto 4, 3) := by decide +kernel
theorem d120_257 : decode (pg_code 120) 257 = .ok (.iconst 0, 1) := by decide +kernel
theorem d120_258 : decode (pg_code 120) 258 = .ok (.ireturn, 1) := by decide +kernel
theorem d120_259 : decode (pg_code 120) 259 = .ok (.aload_n 0, 1) := by decide +kernel
theorem d120_260 : decode (pg_code 120) 260 = .ok (.iload 4, 2) := by decide +kernel
theorem d120_262 : decode (pg_code 120) 262 = .ok (.iload 5, 2) := by decide +kernel
theorem d120_264 : decode (pg_code 120) 264 = .ok (.invokevirtual 240, 3) := by decide +kernel
theorem d120_267 : decode (pg_code 120) 267 = .ok (.ifCond .eq 18, 3) := by decide +kernel
theorem d120_270 : decode (pg_code 120) 270 = .ok (.iload 4, 2) := by decide +kernel
theorem d120_272 : decode (pg_code 120) 272 = .ok (.ifCond .lt 15, 3) := by decide +kernel
theorem d120_275 : decode (pg_code 120) 275 = .ok (.aload_n 0, 1) := by decide +kernel
theorem d120_276 : decode (pg_code 120) 276 = .ok (.iload 4, 2) := by decide +kernel
theorem d120_278 : decode (pg_code 120) 278 = .ok (.iload_n 3, 1) := by decide +kernel
theorem d120_279 : decode (pg_code 120) 279 = .ok (.invokevirtual 243, 3) := by decide +kernel
theorem d120_282 : decode (pg_code 120) 282 = .ok (.ifCond .eq 5, 3) := by decide +kernel
theorem d120_285 : decode (pg_code 120) 285 = .ok (.iconst 0, 1) := by decide +kernel
theorem d120_286 : decode (pg_code 120) 286 = .ok (.ireturn, 1) := by decide +kernel
theorem d120_287 : decode (pg_code 120) 287 = .ok (.aload_n 0, 1) := by decide +kernel
theorem d120_288 : decode (pg_code 120) 288 = .ok (.iload_n 1, 1) := by decide +kernel
theorem d120_289 : decode (pg_code 120) 289 = .ok (.iload_n 3, 1) := by decide +kernel
theorem d120_290 : decode (pg_code 120) 290 = .ok (.iload 4, 2) := by decide +kernel
theorem d120_292 : decode (pg_code 120) 292 = .ok (.iload 5, 2) := by decide +kernel
theorem d120_294 : decode (pg_code 120) 294 = .ok (.invokevirtual 214, 3) := by decide +kernel
theorem d120_297 : decode (pg_code 120) 297 = .ok (.iconst 1, 1) := by decide +kernel
theorem d120_298 : decode (pg_code 120) 298 = .ok (.ireturn, 1) := by decide +kernel
theorem e120 {b1 b2 b3 : Value} : am_Call L xs d 120 [b1, b2, b3] σ Q = am_Rn L xs d 120 0 [b1, b2, b3, .retAddr 0, .retAddr 0, .retAddr 0, .retAddr 0] [] σ Q := rfl
theorem r120_0  : am_Rn L xs d 120 0 ls st σ Q = am_la ls 0 (fun x => am_Rn L xs d 120 1 ls (x :: st) σ Q) := am_r_aload_n d120_0
theorem r120_1 {p : Nat} : am_Rn L xs d 120 1 ls (.ref p :: st) σ Q = am_fd σ p 6 19 (fun v => am_Rn L xs d 120 4 ls (v :: st) σ Q) := am_r_getfield d120_1 rfl
theorem r120_4  : am_Rn L xs d 120 4 ls st σ Q = am_li ls 1 (fun x => am_Rn L xs d 120 5 ls (.int x :: st) σ Q) := am_r_iload_n d120_4
theorem r120_5 {p : Nat} {i : Int32} : am_Rn L xs d 120 5 ls (.int i :: .ref p :: st) σ Q = am_ai 0 σ p i (fun x => am_Rn L xs d 120 6 ls (.int x :: st) σ Q) := am_r_iaload d120_5
theorem r120_6 {a : Int32} : am_Rn L xs d 120 6 ls (.int a :: st) σ Q = if ¬ a = 0 then am_Rn L xs d 120 18 ls st σ Q else am_Rn L xs d 120 9 ls st σ Q := (am_r_if (t := 18) d120_6 (by decide)).trans (am_ite _ _ trivial (by simp only [am_cond, decide_eq_true_eq]))
theorem r120_9  : am_Rn L xs d 120 9 ls st σ Q = am_la ls 0 (fun x => am_Rn L xs d 120 10 ls (x :: st) σ Q) := am_r_aload_n d120_9
theorem r120_10 {p : Nat} : am_Rn L xs d 120 10 ls (.ref p :: st) σ Q = am_fd σ p 6 20 (fun v => am_Rn L xs d 120 13 ls (v :: st) σ Q) := am_r_getfield d120_10 rfl
theorem r120_13  : am_Rn L xs d 120 13 ls st σ Q = am_li ls 1 (fun x => am_Rn L xs d 120 14 ls (.int x :: st) σ Q) := am_r_iload_n d120_13
theorem r120_14 {p : Nat} {i : Int32} : am_Rn L xs d 120 14 ls (.int i :: .ref p :: st) σ Q = am_ai 0 σ p i (fun x => am_Rn L xs d 120 15 ls (.int x :: st) σ Q) := am_r_iaload d120_14
theorem r120_15  : am_Rn L xs d 120 15 ls st σ Q = am_Rn L xs d 120 29 ls st σ Q := am_r_goto d120_15 (by decide)
theorem r120_18  : am_Rn L xs d 120 18 ls st σ Q = am_la ls 0 (fun x => am_Rn L xs d 120 19 ls (x :: st) σ Q) := am_r_aload_n d120_18
theorem r120_19  : am_Rn L xs d 120 19 ls st σ Q = am_la ls 0 (fun x => am_Rn L xs d 120 20 ls (x :: st) σ Q) := am_r_aload_n d120_19
theorem r120_20 {p : Nat} : am_Rn L xs d 120 20 ls (.ref p :: st) σ Q = am_fd σ p 6 20 (fun v => am_Rn L xs d 120 23 ls (v :: st) σ Q) := am_r_getfield d120_20 rfl
theorem r120_23  : am_Rn L xs d 120 23 ls st σ Q = am_li ls 1 (fun x => am_Rn L xs d 120 24 ls (.int x :: st) σ Q) := am_r_iload_n d120_23
theorem r120_24 {p : Nat} {i : Int32} : am_Rn L xs d 120 24 ls (.int i :: .ref p :: st) σ Q = am_ai 0 σ p i (fun x => am_Rn L xs d 120 25 ls (.int x :: st) σ Q) := am_r_iaload d120_24
theorem r120_25  : am_Rn L xs d 120 25 ls st σ Q = am_li ls 2 (fun x => am_Rn L xs d 120 26 ls (.int x :: st) σ Q) := am_r_iload_n d120_25
theorem r120_26 {a1 a2 : Value} {p : Nat} : am_Rn L xs (d + 1) 120 26 ls (a2 :: a1 :: .ref p :: st) σ Q = ((am_oc σ p = 6 ∧ st.length ≤ 4 ∧ am_ok a1 = true ∧ am_ok a2 = true) ∧ am_Call L xs d 121 [.ref p, a1, a2] σ (fun r σ1 => am_Rn L xs (d + 1) 120 29 ls (r.toList ++ st) σ1 Q)) := am_R_virtual2 d120_26 rfl ⟨by decide, rfl⟩ rfl rfl (by decide)
theorem r120_29 {x : Int32} : am_Rn L xs d 120 29 ls (.int x :: st) σ Q = (3 < ls.length ∧ am_Rn L xs d 120 30 (ls.set 3 (.int x)) st σ Q) := am_r_istore_n d120_29
theorem r120_30  : am_Rn L xs d 120 30 ls st σ Q = am_la ls 0 (fun x => am_Rn L xs d 120 31 ls (x :: st) σ Q) := am_r_aload_n d120_30
theorem r120_31 {p : Nat} : am_Rn L xs d 120 31 ls (.ref p :: st) σ Q = am_fd σ p 6 21 (fun v => am_Rn L xs d 120 34 ls (v :: st) σ Q) := am_r_getfield d120_31 rfl
theorem r120_34  : am_Rn L xs d 120 34 ls st σ Q = am_li ls 1 (fun x => am_Rn L xs d 120 35 ls (.int x :: st) σ Q) := am_r_iload_n d120_34
theorem r120_35 {p : Nat} {i : Int32} : am_Rn L xs d 120 35 ls (.int i :: .ref p :: st) σ Q = am_ai 0 σ p i (fun x => am_Rn L xs d 120 36 ls (.int x :: st) σ Q) := am_r_iaload d120_35
theorem r120_36 {a : Int32} : am_Rn L xs d 120 36 ls (.int a :: st) σ Q = if 0 ≤ a then am_Rn L xs d 120 43 ls st σ Q else am_Rn L xs d 120 39 ls st σ Q := (am_r_if (t := 43) d120_36 (by decide)).trans (am_ite _ _ trivial (by simp only [am_cond, decide_eq_true_eq]))
theorem r120_39  : am_Rn L xs d 120 39 ls st σ Q = am_Rn L xs d 120 40 ls (.int (-1) :: st) σ Q := am_r_iconst d120_39 (by decide)
theorem r120_40  : am_Rn L xs d 120 40 ls st σ Q = am_Rn L xs d 120 54 ls st σ Q := am_r_goto d120_40 (by decide)
theorem r120_43  : am_Rn L xs d 120 43 ls st σ Q = am_la ls 0 (fun x => am_Rn L xs d 120 44 ls (x :: st) σ Q) := am_r_aload_n d120_43
theorem r120_44  : am_Rn L xs d 120 44 ls st σ Q = am_la ls 0 (fun x => am_Rn L xs d 120 45 ls (x :: st) σ Q) := am_r_aload_n d120_44
theorem r120_45 {p : Nat} : am_Rn L xs d 120 45 ls (.ref p :: st) σ Q = am_fd σ p 6 21 (fun v => am_Rn L xs d 120 48 ls (v :: st) σ Q) := am_r_getfield d120_45 rfl
theorem r120_48  : am_Rn L xs d 120 48 ls st σ Q = am_li ls 1 (fun x => am_Rn L xs d 120 49 ls (.int x :: st) σ Q) := am_r_iload_n d120_48
theorem r120_49 {p : Nat} {i : Int32} : am_Rn L xs d 120 49 ls (.int i :: .ref p :: st) σ Q = am_ai 0 σ p i (fun x => am_Rn L xs d 120 50 ls (.int x :: st) σ Q) := am_r_iaload d120_49
theorem r120_50  : am_Rn L xs d 120 50 ls st σ Q = am_li ls 2 (fun x => am_Rn L xs d 120 51 ls (.int x :: st) σ Q) := am_r_iload_n d120_50
theorem r120_51 {a1 a2 : Value} {p : Nat} : am_Rn L xs (d + 1) 120 51 ls (a2 :: a1 :: .ref p :: st) σ Q = ((am_oc σ p = 6 ∧ st.length ≤ 4 ∧ am_ok a1 = true ∧ am_ok a2 = true) ∧ am_Call L xs d 121 [.ref p, a1, a2] σ (fun r σ1 => am_Rn L xs (d + 1) 120 54 ls (r.toList ++ st) σ1 Q)) := am_R_virtual2 d120_51 rfl ⟨by decide, rfl⟩ rfl rfl (by decide)
theorem r120_54 {x : Int32} : am_Rn L xs d 120 54 ls (.int x :: st) σ Q = (4 < ls.length ∧ am_Rn L xs d 120 56 (ls.set 4 (.int x)) st σ Q) := am_r_istore d120_54
theorem r120_56  : am_Rn L xs d 120 56 ls st σ Q = am_la ls 0 (fun x => am_Rn L xs d 120 57 ls (x :: st) σ Q) := am_r_aload_n d120_56
theorem r120_57 {p : Nat} : am_Rn L xs d 120 57 ls (.ref p :: st) σ Q = am_fd σ p 6 22 (fun v => am_Rn L xs d 120 60 ls (v :: st) σ Q) := am_r_getfield d120_57 rfl
theorem r120_60  : am_Rn L xs d 120 60 ls st σ Q = am_li ls 1 (fun x => am_Rn L xs d 120 61 ls (.int x :: st) σ Q) := am_r_iload_n d120_60
theorem r120_61 {p : Nat} {i : Int32} : am_Rn L xs d 120 61 ls (.int i :: .ref p :: st) σ Q = am_ai 0 σ p i (fun x => am_Rn L xs d 120 62 ls (.int x :: st) σ Q) := am_r_iaload d120_61
theorem r120_62 {a : Int32} : am_Rn L xs d 120 62 ls (.int a :: st) σ Q = if 0 ≤ a then am_Rn L xs d 120 69 ls st σ Q else am_Rn L xs d 120 65 ls st σ Q := (am_r_if (t := 69) d120_62 (by decide)).trans (am_ite _ _ trivial (by simp only [am_cond, decide_eq_true_eq]))
theorem r120_65  : am_Rn L xs d 120 65 ls st σ Q = am_Rn L xs d 120 66 ls (.int (-1) :: st) σ Q := am_r_iconst d120_65 (by decide)
theorem r120_66  : am_Rn L xs d 120 66 ls st σ Q = am_Rn L xs d 120 80 ls st σ Q := am_r_goto d120_66 (by decide)
theorem r120_69  : am_Rn L xs d 120 69 ls st σ Q = am_la ls 0 (fun x => am_Rn L xs d 120 70 ls (x :: st) σ Q) := am_r_aload_n d120_69
theorem r120_70  : am_Rn L xs d 120 70 ls st σ Q = am_la ls 0 (fun x => am_Rn L xs d 120 71 ls (x :: st) σ Q) := am_r_aload_n d120_70
theorem r120_71 {p : Nat} : am_Rn L xs d 120 71 ls (.ref p :: st) σ Q = am_fd σ p 6 22 (fun v => am_Rn L xs d 120 74 ls (v :: st) σ Q) := am_r_getfield d120_71 rfl
theorem r120_74  : am_Rn L xs d 120 74 ls st σ Q = am_li ls 1 (fun x => am_Rn L xs d 120 75 ls (.int x :: st) σ Q) := am_r_iload_n d120_74
theorem r120_75 {p : Nat} {i : Int32} : am_Rn L xs d 120 75 ls (.int i :: .ref p :: st) σ Q = am_ai 0 σ p i (fun x => am_Rn L xs d 120 76 ls (.int x :: st) σ Q) := am_r_iaload d120_75
theorem r120_76  : am_Rn L xs d 120 76 ls st σ Q = am_li ls 2 (fun x => am_Rn L xs d 120 77 ls (.int x :: st) σ Q) := am_r_iload_n d120_76
theorem r120_77 {a1 a2 : Value} {p : Nat} : am_Rn L xs (d + 1) 120 77 ls (a2 :: a1 :: .ref p :: st) σ Q = ((am_oc σ p = 6 ∧ st.length ≤ 4 ∧ am_ok a1 = true ∧ am_ok a2 = true) ∧ am_Call L xs d 121 [.ref p, a1, a2] σ (fun r σ1 => am_Rn L xs (d + 1) 120 80 ls (r.toList ++ st) σ1 Q)) := am_R_virtual2 d120_77 rfl ⟨by decide, rfl⟩ rfl rfl (by decide)
theorem r120_80 {x : Int32} : am_Rn L xs d 120 80 ls (.int x :: st) σ Q = (5 < ls.length ∧ am_Rn L xs d 120 82 (ls.set 5 (.int x)) st σ Q) := am_r_istore d120_80
theorem r120_82  : am_Rn L xs d 120 82 ls st σ Q = am_la ls 0 (fun x => am_Rn L xs d 120 83 ls (x :: st) σ Q) := am_r_aload_n d120_82
theorem r120_83 {p : Nat} : am_Rn L xs d 120 83 ls (.ref p :: st) σ Q = am_fd σ p 6 19 (fun v => am_Rn L xs d 120 86 ls (v :: st) σ Q) := am_r_getfield d120_83 rfl
theorem r120_86  : am_Rn L xs d 120 86 ls st σ Q = am_li ls 1 (fun x => am_Rn L xs d 120 87 ls (.int x :: st) σ Q) := am_r_iload_n d120_86
theorem r120_87 {p : Nat} {i : Int32} : am_Rn L xs d 120 87 ls (.int i :: .ref p :: st) σ Q = am_ai 0 σ p i (fun x => am_Rn L xs d 120 88 ls (.int x :: st) σ Q) := am_r_iaload d120_87
theorem r120_88 {a : Int32} : am_Rn L xs d 120 88 ls (.int a :: st) σ Q = if ¬ a = 0 then am_Rn L xs d 120 102 ls st σ Q else am_Rn L xs d 120 91 ls st σ Q := (am_r_if (t := 102) d120_88 (by decide)).trans (am_ite _ _ trivial (by simp only [am_cond, decide_eq_true_eq]))
theorem r120_91  : am_Rn L xs d 120 91 ls st σ Q = am_la ls 0 (fun x => am_Rn L xs d 120 92 ls (x :: st) σ Q) := am_r_aload_n d120_91
theorem r120_92  : am_Rn L xs d 120 92 ls st σ Q = am_li ls 1 (fun x => am_Rn L xs d 120 93 ls (.int x :: st) σ Q) := am_r_iload_n d120_92
theorem r120_93  : am_Rn L xs d 120 93 ls st σ Q = am_li ls 2 (fun x => am_Rn L xs d 120 94 ls (.int x :: st) σ Q) := am_r_iload_n d120_93
theorem r120_94  : am_Rn L xs d 120 94 ls st σ Q = am_li ls 4 (fun x => am_Rn L xs d 120 96 ls (.int x :: st) σ Q) := am_r_iload d120_94
theorem r120_96  : am_Rn L xs d 120 96 ls st σ Q = am_li ls 5 (fun x => am_Rn L xs d 120 98 ls (.int x :: st) σ Q) := am_r_iload d120_96
theorem r120_98 {a1 a2 a3 a4 : Value} {p : Nat} : am_Rn L xs (d + 1) 120 98 ls (a4 :: a3 :: a2 :: a1 :: .ref p :: st) σ Q = ((am_oc σ p = 6 ∧ st.length ≤ 4 ∧ am_ok a1 = true ∧ am_ok a2 = true ∧ am_ok a3 = true ∧ am_ok a4 = true) ∧ am_Call L xs d 122 [.ref p, a1, a2, a3, a4] σ (fun r σ1 => am_Rn L xs (d + 1) 120 101 ls (r.toList ++ st) σ1 Q)) := am_R_virtual4 d120_98 rfl ⟨by decide, rfl⟩ rfl rfl (by decide)
theorem r120_101 {v : Int32} (hv : v = 0 ∨ v = 1) : am_Rn L xs d 120 101 ls [.int v] σ Q = Q (some (.int v)) σ := am_r_zreturn d120_101 rfl hv
theorem r120_102  : am_Rn L xs d 120 102 ls st σ Q = am_la ls 0 (fun x => am_Rn L xs d 120 103 ls (x :: st) σ Q) := am_r_aload_n d120_102
theorem r120_103 {p : Nat} : am_Rn L xs d 120 103 ls (.ref p :: st) σ Q = am_fd σ p 6 19 (fun v => am_Rn L xs d 120 106 ls (v :: st) σ Q) := am_r_getfield d120_103 rfl
theorem r120_106  : am_Rn L xs d 120 106 ls st σ Q = am_li ls 1 (fun x => am_Rn L xs d 120 107 ls (.int x :: st) σ Q) := am_r_iload_n d120_106
theorem r120_107 {p : Nat} {i : Int32} : am_Rn L xs d 120 107 ls (.int i :: .ref p :: st) σ Q = am_ai 0 σ p i (fun x => am_Rn L xs d 120 108 ls (.int x :: st) σ Q) := am_r_iaload d120_107
theorem r120_108  : am_Rn L xs d 120 108 ls st σ Q = am_Rn L xs d 120 109 ls (.int 3 :: st) σ Q := am_r_iconst d120_108 (by decide)
theorem r120_109 {a b : Int32} : am_Rn L xs d 120 109 ls (.int b :: .int a :: st) σ Q = if ¬ a = b then am_Rn L xs d 120 163 ls st σ Q else am_Rn L xs d 120 112 ls st σ Q := (am_r_icmp (t := 163) d120_109 (by decide)).trans (am_ite _ _ trivial (by simp only [am_cond, decide_eq_true_eq]))
theorem r120_112  : am_Rn L xs d 120 112 ls st σ Q = am_la ls 0 (fun x => am_Rn L xs d 120 113 ls (x :: st) σ Q) := am_r_aload_n d120_112
theorem r120_113  : am_Rn L xs d 120 113 ls st σ Q = am_Rn L xs d 120 114 ls (.int 3 :: st) σ Q := am_r_iconst d120_113 (by decide)
theorem r120_114  : am_Rn L xs d 120 114 ls st σ Q = am_li ls 3 (fun x => am_Rn L xs d 120 115 ls (.int x :: st) σ Q) := am_r_iload_n d120_114
theorem r120_115 {a1 a2 : Value} {p : Nat} : am_Rn L xs (d + 1) 120 115 ls (a2 :: a1 :: .ref p :: st) σ Q = ((am_oc σ p = 6 ∧ st.length ≤ 4 ∧ am_ok a1 = true ∧ am_ok a2 = true) ∧ am_Call L xs d 126 [.ref p, a1, a2] σ (fun r σ1 => am_Rn L xs (d + 1) 120 118 ls (r.toList ++ st) σ1 Q)) := am_R_virtual2 d120_115 rfl ⟨by decide, rfl⟩ rfl rfl (by decide)
theorem r120_118 {a : Int32} : am_Rn L xs d 120 118 ls (.int a :: st) σ Q = if a < 0 then am_Rn L xs d 120 123 ls st σ Q else am_Rn L xs d 120 121 ls st σ Q := (am_r_if (t := 123) d120_118 (by decide)).trans (am_ite _ _ trivial (by simp only [am_cond, decide_eq_true_eq]))
theorem r120_121  : am_Rn L xs d 120 121 ls st σ Q = am_Rn L xs d 120 122 ls (.int 1 :: st) σ Q := am_r_iconst d120_121 (by decide)
theorem r120_122 {v : Int32} (hv : v = 0 ∨ v = 1) : am_Rn L xs d 120 122 ls [.int v] σ Q = Q (some (.int v)) σ := am_r_zreturn d120_122 rfl hv
theorem r120_123  : am_Rn L xs d 120 123 ls st σ Q = am_la ls 0 (fun x => am_Rn L xs d 120 124 ls (x :: st) σ Q) := am_r_aload_n d120_123
theorem r120_124  : am_Rn L xs d 120 124 ls st σ Q = am_Rn L xs d 120 125 ls (.int 1 :: st) σ Q := am_r_iconst d120_124 (by decide)
theorem r120_125  : am_Rn L xs d 120 125 ls st σ Q = am_li ls 3 (fun x => am_Rn L xs d 120 126 ls (.int x :: st) σ Q) := am_r_iload_n d120_125
theorem r120_126 {a1 a2 : Value} {p : Nat} : am_Rn L xs (d + 1) 120 126 ls (a2 :: a1 :: .ref p :: st) σ Q = ((am_oc σ p = 6 ∧ st.length ≤ 4 ∧ am_ok a1 = true ∧ am_ok a2 = true) ∧ am_Call L xs d 126 [.ref p, a1, a2] σ (fun r σ1 => am_Rn L xs (d + 1) 120 129 ls (r.toList ++ st) σ1 Q)) := am_R_virtual2 d120_126 rfl ⟨by decide, rfl⟩ rfl rfl (by decide)
theorem r120_129 {a : Int32} : am_Rn L xs d 120 129 ls (.int a :: st) σ Q = if 0 ≤ a then am_Rn L xs d 120 149 ls st σ Q else am_Rn L xs d 120 132 ls st σ Q := (am_r_if (t := 149) d120_129 (by decide)).trans (am_ite _ _ trivial (by simp only [am_cond, decide_eq_true_eq]))
theorem r120_132  : am_Rn L xs d 120 132 ls st σ Q = am_la ls 0 (fun x => am_Rn L xs d 120 133 ls (x :: st) σ Q) := am_r_aload_n d120_132
theorem r120_133  : am_Rn L xs d 120 133 ls st σ Q = am_Rn L xs d 120 134 ls (.int 2 :: st) σ Q := am_r_iconst d120_133 (by decide)
theorem r120_134  : am_Rn L xs d 120 134 ls st σ Q = am_li ls 3 (fun x => am_Rn L xs d 120 135 ls (.int x :: st) σ Q) := am_r_iload_n d120_134
theorem r120_135 {a1 a2 : Value} {p : Nat} : am_Rn L xs (d + 1) 120 135 ls (a2 :: a1 :: .ref p :: st) σ Q = ((am_oc σ p = 6 ∧ st.length ≤ 4 ∧ am_ok a1 = true ∧ am_ok a2 = true) ∧ am_Call L xs d 126 [.ref p, a1, a2] σ (fun r σ1 => am_Rn L xs (d + 1) 120 138 ls (r.toList ++ st) σ1 Q)) := am_R_virtual2 d120_135 rfl ⟨by decide, rfl⟩ rfl rfl (by decide)
theorem r120_138 {a : Int32} : am_Rn L xs d 120 138 ls (.int a :: st) σ Q = if 0 ≤ a then am_Rn L xs d 120 149 ls st σ Q else am_Rn L xs d 120 141 ls st σ Q := (am_r_if (t := 149) d120_138 (by decide)).trans (am_ite _ _ trivial (by simp only [am_cond, decide_eq_true_eq]))
theorem r120_141  : am_Rn L xs d 120 141 ls st σ Q = am_la ls 0 (fun x => am_Rn L xs d 120 142 ls (x :: st) σ Q) := am_r_aload_n d120_141
theorem r120_142  : am_Rn L xs d 120 142 ls st σ Q = am_li ls 3 (fun x => am_Rn L xs d 120 143 ls (.int x :: st) σ Q) := am_r_iload_n d120_142
theorem r120_143 {a1 : Value} {p : Nat} : am_Rn L xs (d + 1) 120 143 ls (a1 :: .ref p :: st) σ Q = ((am_oc σ p = 6 ∧ st.length ≤ 4 ∧ am_ok a1 = true) ∧ am_Call L xs d 127 [.ref p, a1] σ (fun r σ1 => am_Rn L xs (d + 1) 120 146 ls (r.toList ++ st) σ1 Q)) := am_R_virtual1 d120_143 rfl ⟨by decide, rfl⟩ rfl rfl (by decide)
theorem r120_146 {a : Int32} : am_Rn L xs d 120 146 ls (.int a :: st) σ Q = if a = 0 then am_Rn L xs d 120 151 ls st σ Q else am_Rn L xs d 120 149 ls st σ Q := (am_r_if (t := 151) d120_146 (by decide)).trans (am_ite _ _ trivial (by simp only [am_cond, decide_eq_true_eq]))
theorem r120_149  : am_Rn L xs d 120 149 ls st σ Q = am_Rn L xs d 120 150 ls (.int 0 :: st) σ Q := am_r_iconst d120_149 (by decide)
theorem r120_150 {v : Int32} (hv : v = 0 ∨ v = 1) : am_Rn L xs d 120 150 ls [.int v] σ Q = Q (some (.int v)) σ := am_r_zreturn d120_150 rfl hv
theorem r120_151  : am_Rn L xs d 120 151 ls st σ Q = am_la ls 0 (fun x => am_Rn L xs d 120 152 ls (x :: st) σ Q) := am_r_aload_n d120_151
theorem r120_152  : am_Rn L xs d 120 152 ls st σ Q = am_li ls 1 (fun x => am_Rn L xs d 120 153 ls (.int x :: st) σ Q) := am_r_iload_n d120_152
theorem r120_153  : am_Rn L xs d 120 153 ls st σ Q = am_li ls 3 (fun x => am_Rn L xs d 120 154 ls (.int x :: st) σ Q) := am_r_iload_n d120_153
theorem r120_154  : am_Rn L xs d 120 154 ls st σ Q = am_li ls 4 (fun x => am_Rn L xs d 120 156 ls (.int x :: st) σ Q) := am_r_iload d120_154
theorem r120_156  : am_Rn L xs d 120 156 ls st σ Q = am_li ls 5 (fun x => am_Rn L xs d 120 158 ls (.int x :: st) σ Q) := am_r_iload d120_156
theorem r120_158 {a1 a2 a3 a4 : Value} {p : Nat} : am_Rn L xs (d + 1) 120 158 ls (a4 :: a3 :: a2 :: a1 :: .ref p :: st) σ Q = ((am_oc σ p = 6 ∧ st.length ≤ 4 ∧ am_ok a1 = true ∧ am_ok a2 = true ∧ am_ok a3 = true ∧ am_ok a4 = true) ∧ am_Call L xs d 114 [.ref p, a1, a2, a3, a4] σ (fun r σ1 => am_Rn L xs (d + 1) 120 161 ls (r.toList ++ st) σ1 Q)) := am_R_virtual4 d120_158 rfl ⟨by decide, rfl⟩ rfl rfl (by decide)
theorem r120_161  : am_Rn L xs d 120 161 ls st σ Q = am_Rn L xs d 120 162 ls (.int 1 :: st) σ Q := am_r_iconst d120_161 (by decide)
theorem r120_162 {v : Int32} (hv : v = 0 ∨ v = 1) : am_Rn L xs d 120 162 ls [.int v] σ Q = Q (some (.int v)) σ := am_r_zreturn d120_162 rfl hv
theorem r120_163  : am_Rn L xs d 120 163 ls st σ Q = am_la ls 0 (fun x => am_Rn L xs d 120 164 ls (x :: st) σ Q) := am_r_aload_n d120_163
theorem r120_164 {p : Nat} : am_Rn L xs d 120 164 ls (.ref p :: st) σ Q = am_fd σ p 6 30 (fun v => am_Rn L xs d 120 167 ls (v :: st) σ Q) := am_r_getfield d120_164 rfl
theorem r120_167  : am_Rn L xs d 120 167 ls st σ Q = am_li ls 3 (fun x => am_Rn L xs d 120 168 ls (.int x :: st) σ Q) := am_r_iload_n d120_167
theorem r120_168 {p : Nat} {i : Int32} : am_Rn L xs d 120 168 ls (.int i :: .ref p :: st) σ Q = am_ai 1 σ p i (fun x => am_Rn L xs d 120 169 ls (.int x :: st) σ Q) := am_r_baload d120_168
theorem r120_169 {a : Int32} : am_Rn L xs d 120 169 ls (.int a :: st) σ Q = if ¬ a = 0 then am_Rn L xs d 120 174 ls st σ Q else am_Rn L xs d 120 172 ls st σ Q := (am_r_if (t := 174) d120_169 (by decide)).trans (am_ite _ _ trivial (by simp only [am_cond, decide_eq_true_eq]))
theorem r120_172  : am_Rn L xs d 120 172 ls st σ Q = am_Rn L xs d 120 173 ls (.int 0 :: st) σ Q := am_r_iconst d120_172 (by decide)
theorem r120_173 {v : Int32} (hv : v = 0 ∨ v = 1) : am_Rn L xs d 120 173 ls [.int v] σ Q = Q (some (.int v)) σ := am_r_zreturn d120_173 rfl hv
theorem r120_174  : am_Rn L xs d 120 174 ls st σ Q = am_la ls 0 (fun x => am_Rn L xs d 120 175 ls (x :: st) σ Q) := am_r_aload_n d120_174
theorem r120_175  : am_Rn L xs d 120 175 ls st σ Q = am_la ls 0 (fun x => am_Rn L xs d 120 176 ls (x :: st) σ Q) := am_r_aload_n d120_175
theorem r120_176 {p : Nat} : am_Rn L xs d 120 176 ls (.ref p :: st) σ Q = am_fd σ p 6 19 (fun v => am_Rn L xs d 120 179 ls (v :: st) σ Q) := am_r_getfield d120_176 rfl
theorem r120_179  : am_Rn L xs d 120 179 ls st σ Q = am_li ls 1 (fun x => am_Rn L xs d 120 180 ls (.int x :: st) σ Q) := am_r_iload_n d120_179
theorem r120_180 {p : Nat} {i : Int32} : am_Rn L xs d 120 180 ls (.int i :: .ref p :: st) σ Q = am_ai 0 σ p i (fun x => am_Rn L xs d 120 181 ls (.int x :: st) σ Q) := am_r_iaload d120_180
theorem r120_181  : am_Rn L xs d 120 181 ls st σ Q = am_li ls 3 (fun x => am_Rn L xs d 120 182 ls (.int x :: st) σ Q) := am_r_iload_n d120_181
theorem r120_182 {a1 a2 : Value} {p : Nat} : am_Rn L xs (d + 1) 120 182 ls (a2 :: a1 :: .ref p :: st) σ Q = ((am_oc σ p = 6 ∧ st.length ≤ 4 ∧ am_ok a1 = true ∧ am_ok a2 = true) ∧ am_Call L xs d 126 [.ref p, a1, a2] σ (fun r σ1 => am_Rn L xs (d + 1) 120 185 ls (r.toList ++ st) σ1 Q)) := am_R_virtual2 d120_182 rfl ⟨by decide, rfl⟩ rfl rfl (by decide)
theorem r120_185 {x : Int32} : am_Rn L xs d 120 185 ls (.int x :: st) σ Q = (6 < ls.length ∧ am_Rn L xs d 120 187 (ls.set 6 (.int x)) st σ Q) := am_r_istore d120_185
theorem r120_187  : am_Rn L xs d 120 187 ls st σ Q = am_la ls 0 (fun x => am_Rn L xs d 120 188 ls (x :: st) σ Q) := am_r_aload_n d120_187
theorem r120_188 {p : Nat} : am_Rn L xs d 120 188 ls (.ref p :: st) σ Q = am_fd σ p 6 19 (fun v => am_Rn L xs d 120 191 ls (v :: st) σ Q) := am_r_getfield d120_188 rfl
theorem r120_191  : am_Rn L xs d 120 191 ls st σ Q = am_li ls 1 (fun x => am_Rn L xs d 120 192 ls (.int x :: st) σ Q) := am_r_iload_n d120_191
theorem r120_192 {p : Nat} {i : Int32} : am_Rn L xs d 120 192 ls (.int i :: .ref p :: st) σ Q = am_ai 0 σ p i (fun x => am_Rn L xs d 120 193 ls (.int x :: st) σ Q) := am_r_iaload d120_192
theorem r120_193  : am_Rn L xs d 120 193 ls st σ Q = am_Rn L xs d 120 194 ls (.int 1 :: st) σ Q := am_r_iconst d120_193 (by decide)
theorem r120_194 {a b : Int32} : am_Rn L xs d 120 194 ls (.int b :: .int a :: st) σ Q = if ¬ a = b then am_Rn L xs d 120 224 ls st σ Q else am_Rn L xs d 120 197 ls st σ Q := (am_r_icmp (t := 224) d120_194 (by decide)).trans (am_ite _ _ trivial (by simp only [am_cond, decide_eq_true_eq]))
theorem r120_197  : am_Rn L xs d 120 197 ls st σ Q = am_li ls 6 (fun x => am_Rn L xs d 120 199 ls (.int x :: st) σ Q) := am_r_iload d120_197
theorem r120_199 {a : Int32} : am_Rn L xs d 120 199 ls (.int a :: st) σ Q = if a < 0 then am_Rn L xs d 120 287 ls st σ Q else am_Rn L xs d 120 202 ls st σ Q := (am_r_if (t := 287) d120_199 (by decide)).trans (am_ite _ _ trivial (by simp only [am_cond, decide_eq_true_eq]))
theorem r120_202  : am_Rn L xs d 120 202 ls st σ Q = am_la ls 0 (fun x => am_Rn L xs d 120 203 ls (x :: st) σ Q) := am_r_aload_n d120_202
theorem r120_203 {p : Nat} : am_Rn L xs d 120 203 ls (.ref p :: st) σ Q = am_fd σ p 6 24 (fun v => am_Rn L xs d 120 206 ls (v :: st) σ Q) := am_r_getfield d120_203 rfl
theorem r120_206  : am_Rn L xs d 120 206 ls st σ Q = am_li ls 6 (fun x => am_Rn L xs d 120 208 ls (.int x :: st) σ Q) := am_r_iload d120_206
theorem r120_208 {p : Nat} {i : Int32} : am_Rn L xs d 120 208 ls (.int i :: .ref p :: st) σ Q = am_ai 0 σ p i (fun x => am_Rn L xs d 120 209 ls (.int x :: st) σ Q) := am_r_iaload d120_208
theorem r120_209  : am_Rn L xs d 120 209 ls st σ Q = am_la ls 0 (fun x => am_Rn L xs d 120 210 ls (x :: st) σ Q) := am_r_aload_n d120_209
theorem r120_210 {p : Nat} : am_Rn L xs d 120 210 ls (.ref p :: st) σ Q = am_fd σ p 6 24 (fun v => am_Rn L xs d 120 213 ls (v :: st) σ Q) := am_r_getfield d120_210 rfl
theorem r120_213  : am_Rn L xs d 120 213 ls st σ Q = am_li ls 1 (fun x => am_Rn L xs d 120 214 ls (.int x :: st) σ Q) := am_r_iload_n d120_213
theorem r120_214 {p : Nat} {i : Int32} : am_Rn L xs d 120 214 ls (.int i :: .ref p :: st) σ Q = am_ai 0 σ p i (fun x => am_Rn L xs d 120 215 ls (.int x :: st) σ Q) := am_r_iaload d120_214
theorem r120_215 {a b : Int32} : am_Rn L xs d 120 215 ls (.int b :: .int a :: st) σ Q = if ¬ a = b then am_Rn L xs d 120 222 ls st σ Q else am_Rn L xs d 120 218 ls st σ Q := (am_r_icmp (t := 222) d120_215 (by decide)).trans (am_ite _ _ trivial (by simp only [am_cond, decide_eq_true_eq]))
theorem r120_218  : am_Rn L xs d 120 218 ls st σ Q = am_Rn L xs d 120 219 ls (.int 1 :: st) σ Q := am_r_iconst d120_218 (by decide)
theorem r120_219  : am_Rn L xs d 120 219 ls st σ Q = am_Rn L xs d 120 223 ls st σ Q := am_r_goto d120_219 (by decide)
theorem r120_222  : am_Rn L xs d 120 222 ls st σ Q = am_Rn L xs d 120 223 ls (.int 0 :: st) σ Q := am_r_iconst d120_222 (by decide)
theorem r120_223 {v : Int32} (hv : v = 0 ∨ v = 1) : am_Rn L xs d 120 223 ls [.int v] σ Q = Q (some (.int v)) σ := am_r_zreturn d120_223 rfl hv
theorem r120_224  : am_Rn L xs d 120 224 ls st σ Q = am_li ls 6 (fun x => am_Rn L xs d 120 226 ls (.int x :: st) σ Q) := am_r_iload d120_224
theorem r120_226 {a : Int32} : am_Rn L xs d 120 226 ls (.int a :: st) σ Q = if a < 0 then am_Rn L xs d 120 259 ls st σ Q else am_Rn L xs d 120 229 ls st σ Q := (am_r_if (t := 259) d120_226 (by decide)).trans (am_ite _ _ trivial (by simp only [am_cond, decide_eq_true_eq]))
theorem r120_229  : am_Rn L xs d 120 229 ls st σ Q = am_la ls 0 (fun x => am_Rn L xs d 120 230 ls (x :: st) σ Q) := am_r_aload_n d120_229
theorem r120_230 {p : Nat} : am_Rn L xs d 120 230 ls (.ref p :: st) σ Q = am_fd σ p 6 21 (fun v => am_Rn L xs d 120 233 ls (v :: st) σ Q) := am_r_getfield d120_230 rfl
theorem r120_233  : am_Rn L xs d 120 233 ls st σ Q = am_li ls 6 (fun x => am_Rn L xs d 120 235 ls (.int x :: st) σ Q) := am_r_iload d120_233
theorem r120_235 {p : Nat} {i : Int32} : am_Rn L xs d 120 235 ls (.int i :: .ref p :: st) σ Q = am_ai 0 σ p i (fun x => am_Rn L xs d 120 236 ls (.int x :: st) σ Q) := am_r_iaload d120_235
theorem r120_236  : am_Rn L xs d 120 236 ls st σ Q = am_li ls 4 (fun x => am_Rn L xs d 120 238 ls (.int x :: st) σ Q) := am_r_iload d120_236
theorem r120_238 {a b : Int32} : am_Rn L xs d 120 238 ls (.int b :: .int a :: st) σ Q = if ¬ a = b then am_Rn L xs d 120 257 ls st σ Q else am_Rn L xs d 120 241 ls st σ Q := (am_r_icmp (t := 257) d120_238 (by decide)).trans (am_ite _ _ trivial (by simp only [am_cond, decide_eq_true_eq]))
theorem r120_241  : am_Rn L xs d 120 241 ls st σ Q = am_la ls 0 (fun x => am_Rn L xs d 120 242 ls (x :: st) σ Q) := am_r_aload_n d120_241
theorem r120_242 {p : Nat} : am_Rn L xs d 120 242 ls (.ref p :: st) σ Q = am_fd σ p 6 22 (fun v => am_Rn L xs d 120 245 ls (v :: st) σ Q) := am_r_getfield d120_242 rfl
theorem r120_245  : am_Rn L xs d 120 245 ls st σ Q = am_li ls 6 (fun x => am_Rn L xs d 120 247 ls (.int x :: st) σ Q) := am_r_iload d120_245
theorem r120_247 {p : Nat} {i : Int32} : am_Rn L xs d 120 247 ls (.int i :: .ref p :: st) σ Q = am_ai 0 σ p i (fun x => am_Rn L xs d 120 248 ls (.int x :: st) σ Q) := am_r_iaload d120_247
theorem r120_248  : am_Rn L xs d 120 248 ls st σ Q = am_li ls 5 (fun x => am_Rn L xs d 120 250 ls (.int x :: st) σ Q) := am_r_iload d120_248
theorem r120_250 {a b : Int32} : am_Rn L xs d 120 250 ls (.int b :: .int a :: st) σ Q = if ¬ a = b then am_Rn L xs d 120 257 ls st σ Q else am_Rn L xs d 120 253 ls st σ Q := (am_r_icmp (t := 257) d120_250 (by decide)).trans (am_ite _ _ trivial (by simp only [am_cond, decide_eq_true_eq]))
theorem r120_253  : am_Rn L xs d 120 253 ls st σ Q = am_Rn L xs d 120 254 ls (.int 1 :: st) σ Q := am_r_iconst d120_253 (by decide)
theorem r120_254  : am_Rn L xs d 120 254 ls st σ Q = am_Rn L xs d 120 258 ls st σ Q := am_r_goto d120_254 (by decide)
theorem r120_257  : am_Rn L xs d 120 257 ls st σ Q = am_Rn L xs d 120 258 ls (.int 0 :: st) σ Q := am_r_iconst d120_257 (by decide)
theorem r120_258 {v : Int32} (hv : v = 0 ∨ v = 1) : am_Rn L xs d 120 258 ls [.int v] σ Q = Q (some (.int v)) σ := am_r_zreturn d120_258 rfl hv
theorem r120_259  : am_Rn L xs d 120 259 ls st σ Q = am_la ls 0 (fun x => am_Rn L xs d 120 260 ls (x :: st) σ Q) := am_r_aload_n d120_259
theorem r120_260  : am_Rn L xs d 120 260 ls st σ Q = am_li ls 4 (fun x => am_Rn L xs d 120 262 ls (.int x :: st) σ Q) := am_r_iload d120_260
theorem r120_262  : am_Rn L xs d 120 262 ls st σ Q = am_li ls 5 (fun x => am_Rn L xs d 120 264 ls (.int x :: st) σ Q) := am_r_iload d120_262
theorem r120_264 {a1 a2 : Value} {p : Nat} : am_Rn L xs (d + 1) 120 264 ls (a2 :: a1 :: .ref p :: st) σ Q = ((am_oc σ p = 6 ∧ st.length ≤ 4 ∧ am_ok a1 = true ∧ am_ok a2 = true) ∧ am_Call L xs d 124 [.ref p, a1, a2] σ (fun r σ1 => am_Rn L xs (d + 1) 120 267 ls (r.toList ++ st) σ1 Q)) := am_R_virtual2 d120_264 rfl ⟨by decide, rfl⟩ rfl rfl (by decide)
theorem r120_267 {a : Int32} : am_Rn L xs d 120 267 ls (.int a :: st) σ Q = if a = 0 then am_Rn L xs d 120 285 ls st σ Q else am_Rn L xs d 120 270 ls st σ Q := (am_r_if (t := 285) d120_267 (by decide)).trans (am_ite _ _ trivial (by simp only [am_cond, decide_eq_true_eq]))
theorem r120_270  : am_Rn L xs d 120 270 ls st σ Q = am_li ls 4 (fun x => am_Rn L xs d 120 272 ls (.int x :: st) σ Q) := am_r_iload d120_270
theorem r120_272 {a : Int32} : am_Rn L xs d 120 272 ls (.int a :: st) σ Q = if a < 0 then am_Rn L xs d 120 287 ls st σ Q else am_Rn L xs d 120 275 ls st σ Q := (am_r_if (t := 287) d120_272 (by decide)).trans (am_ite _ _ trivial (by simp only [am_cond, decide_eq_true_eq]))
theorem r120_275  : am_Rn L xs d 120 275 ls st σ Q = am_la ls 0 (fun x => am_Rn L xs d 120 276 ls (x :: st) σ Q) := am_r_aload_n d120_275
theorem r120_276  : am_Rn L xs d 120 276 ls st σ Q = am_li ls 4 (fun x => am_Rn L xs d 120 278 ls (.int x :: st) σ Q) := am_r_iload d120_276
theorem r120_278  : am_Rn L xs d 120 278 ls st σ Q = am_li ls 3 (fun x => am_Rn L xs d 120 279 ls (.int x :: st) σ Q) := am_r_iload_n d120_278
theorem r120_279 {a1 a2 : Value} {p : Nat} : am_Rn L xs (d + 1) 120 279 ls (a2 :: a1 :: .ref p :: st) σ Q = ((am_oc σ p = 6 ∧ st.length ≤ 4 ∧ am_ok a1 = true ∧ am_ok a2 = true) ∧ am_Call L xs d 128 [.ref p, a1, a2] σ (fun r σ1 => am_Rn L xs (d + 1) 120 282 ls (r.toList ++ st) σ1 Q)) := am_R_virtual2 d120_279 rfl ⟨by decide, rfl⟩ rfl rfl (by decide)
theorem r120_282 {a : Int32} : am_Rn L xs d 120 282 ls (.int a :: st) σ Q = if a = 0 then am_Rn L xs d 120 287 ls st σ Q else am_Rn L xs d 120 285 ls st σ Q := (am_r_if (t := 287) d120_282 (by decide)).trans (am_ite _ _ trivial (by simp only [am_cond, decide_eq_true_eq]))
theorem r120_285  : am_Rn L xs d 120 285 ls st σ Q = am_Rn L xs d 120 286 ls (.int 0 :: st) σ Q := am_r_iconst d120_285 (by decide)
theorem r120_286 {v : Int32} (hv : v = 0 ∨ v = 1) : am_Rn L xs d 120 286 ls [.int v] σ Q = Q (some (.int v)) σ := am_r_zreturn d120_286 rfl hv
theorem r120_287  : am_Rn L xs d 120 287 ls st σ Q = am_la ls 0 (fun x => am_Rn L xs d 120 288 ls (x :: st) σ Q) := am_r_aload_n d120_287
theorem r120_288  : am_Rn L xs d 120 288 ls st σ Q = am_li ls 1 (fun x => am_Rn L xs d 120 289 ls (.int x :: st) σ Q) := am_r_iload_n d120_288
theorem r120_289  : am_Rn L xs d 120 289 ls st σ Q = am_li ls 3 (fun x => am_Rn L xs d 120 290 ls (.int x :: st) σ Q) := am_r_iload_n d120_289
theorem r120_290  : am_Rn L xs d 120 290 ls st σ Q = am_li ls 4 (fun x => am_Rn L xs d 120 292 ls (.int x :: st) σ Q) := am_r_iload d120_290
theorem r120_292  : am_Rn L xs d 120 292 ls st σ Q = am_li ls 5 (fun x => am_Rn L xs d 120 294 ls (.int x :: st) σ Q) := am_r_iload d120_292
theorem r120_294 {a1 a2 a3 a4 : Value} {p : Nat} : am_Rn L xs (d + 1) 120 294 ls (a4 :: a3 :: a2 :: a1 :: .ref p :: st) σ Q = ((am_oc σ p = 6 ∧ st.length ≤ 4 ∧ am_ok a1 = true ∧ am_ok a2 = true ∧ am_ok a3 = true ∧ am_ok a4 = true) ∧ am_Call L xs d 114 [.ref p, a1, a2, a3, a4] σ (fun r σ1 => am_Rn L xs (d + 1) 120 297 ls (r.toList ++ st) σ1 Q)) := am_R_virtual4 d120_294 rfl ⟨by decide, rfl⟩ rfl rfl (by decide)
theorem r120_297  : am_Rn L xs d 120 297 ls st σ Q = am_Rn L xs d 120 298 ls (.int 1 :: st) σ Q := am_r_iconst d120_297 (by decide)
theorem r120_298 {v : Int32} (hv : v = 0 ∨ v = 1) : am_Rn L xs d 120 298 ls [.int v] σ Q = Q (some (.int v)) σ := am_r_zreturn d120_298 rfl hv
theorem d121_0 : decode (pg_code 121) 0 = .ok (.iload_n 1, 1) := by decide +kernel
theorem d121_1 : decode (pg_code 121) 1 = .ok (.iload_n 2, 1) := by decide +kernel
theorem d121_2 : decode (pg_code 121) 2 = .ok (.if_icmp .ge 7, 3) := by decide +kernel
theorem d121_5 : decode (pg_code 121) 5 = .ok (.iload_n 1, 1) := by decide +kernel
theorem d121_6 : decode (pg_code 121) 6 = .ok (.goto 11, 3) := by decide +kernel
theorem d121_9 : decode (pg_code 121) 9 = .ok (.aload_n 0, 1) := by decide +kernel
theorem d121_10 : decode (pg_code 121) 10 = .ok (.getfield 110, 3) := by decide +kernel
theorem d121_13 : decode (pg_code 121) 13 = .ok (.iload_n 1, 1) := by decide +kernel
theorem d121_14 : decode (pg_code 121) 14 = .ok (.iload_n 2, 1) := by decide +kernel
theorem d121_15 : decode (pg_code 121) 15 = .ok (.isub, 1) := by decide +kernel
theorem d121_16 : decode (pg_code 121) 16 = .ok (.iaload, 1) := by decide +kernel
theorem d121_17 : decode (pg_code 121) 17 = .ok (.ireturn, 1) := by decide +kernel
theorem e121 {b1 b2 b3 : Value} : am_Call L xs d 121 [b1, b2, b3] σ Q = am_Rn L xs d 121 0 [b1, b2, b3] [] σ Q := rfl
theorem r121_0  : am_Rn L xs d 121 0 ls st σ Q = am_li ls 1 (fun x => am_Rn L xs d 121 1 ls (.int x :: st) σ Q) := am_r_iload_n d121_0
theorem r121_1  : am_Rn L xs d 121 1 ls st σ Q = am_li ls 2 (fun x => am_Rn L xs d 121 2 ls (.int x :: st) σ Q) := am_r_iload_n d121_1
theorem r121_2 {a b : Int32} : am_Rn L xs d 121 2 ls (.int b :: .int a :: st) σ Q = if b ≤ a then am_Rn L xs d 121 9 ls st σ Q else am_Rn L xs d 121 5 ls st σ Q := (am_r_icmp (t := 9) d121_2 (by decide)).trans (am_ite _ _ trivial (by simp only [am_cond, decide_eq_true_eq]))
theorem r121_5  : am_Rn L xs d 121 5 ls st σ Q = am_li ls 1 (fun x => am_Rn L xs d 121 6 ls (.int x :: st) σ Q) := am_r_iload_n d121_5
theorem r121_6  : am_Rn L xs d 121 6 ls st σ Q = am_Rn L xs d 121 17 ls st σ Q := am_r_goto d121_6 (by decide)
theorem r121_9  : am_Rn L xs d 121 9 ls st σ Q = am_la ls 0 (fun x => am_Rn L xs d 121 10 ls (x :: st) σ Q) := am_r_aload_n d121_9
theorem r121_10 {p : Nat} : am_Rn L xs d 121 10 ls (.ref p :: st) σ Q = am_fd σ p 6 39 (fun v => am_Rn L xs d 121 13 ls (v :: st) σ Q) := am_r_getfield d121_10 rfl
theorem r121_13  : am_Rn L xs d 121 13 ls st σ Q = am_li ls 1 (fun x => am_Rn L xs d 121 14 ls (.int x :: st) σ Q) := am_r_iload_n d121_13
theorem r121_14  : am_Rn L xs d 121 14 ls st σ Q = am_li ls 2 (fun x => am_Rn L xs d 121 15 ls (.int x :: st) σ Q) := am_r_iload_n d121_14
theorem r121_15 {a b : Int32} : am_Rn L xs d 121 15 ls (.int b :: .int a :: st) σ Q = am_Rn L xs d 121 16 ls (.int (a - b) :: st) σ Q := am_r_isub d121_15
theorem r121_16 {p : Nat} {i : Int32} : am_Rn L xs d 121 16 ls (.int i :: .ref p :: st) σ Q = am_ai 0 σ p i (fun x => am_Rn L xs d 121 17 ls (.int x :: st) σ Q) := am_r_iaload d121_16
theorem r121_17 {v : Int32} : am_Rn L xs d 121 17 ls [.int v] σ Q = Q (some (.int v)) σ := am_r_ireturn d121_17 rfl
theorem d122_0 : decode (pg_code 122) 0 = .ok (.aload_n 0, 1) := by decide +kernel
theorem d122_1 : decode (pg_code 122) 1 = .ok (.getfield 65, 3) := by decide +kernel
theorem d122_4 : decode (pg_code 122) 4 = .ok (.iload_n 1, 1) := by decide +kernel
theorem d122_5 : decode (pg_code 122) 5 = .ok (.iaload, 1) := by decide +kernel
theorem d122_6 : decode (pg_code 122) 6 = .ok (.iload_n 2, 1) := by decide +kernel
theorem d122_7 : decode (pg_code 122) 7 = .ok (.isub, 1) := by decide +kernel
theorem d122_8 : decode (pg_code 122) 8 = .ok (.istore 5, 2) := by decide +kernel
theorem d122_10 : decode (pg_code 122) 10 = .ok (.aload_n 0, 1) := by decide +kernel
theorem d122_11 : decode (pg_code 122) 11 = .ok (.iload_n 1, 1) := by decide +kernel
theorem d122_12 : decode (pg_code 122) 12 = .ok (.iload_n 3, 1) := by decide +kernel
theorem d122_13 : decode (pg_code 122) 13 = .ok (.iload 4, 2) := by decide +kernel
theorem d122_15 : decode (pg_code 122) 15 = .ok (.iload_n 2, 1) := by decide +kernel
theorem d122_16 : decode (pg_code 122) 16 = .ok (.invokevirtual 246, 3) := by decide +kernel
theorem d122_19 : decode (pg_code 122) 19 = .ok (.istore 6, 2) := by decide +kernel
theorem d122_21 : decode (pg_code 122) 21 = .ok (.iload 6, 2) := by decide +kernel
theorem d122_23 : decode (pg_code 122) 23 = .ok (.ifCond .lt 34, 3) := by decide +kernel
theorem d122_26 : decode (pg_code 122) 26 = .ok (.aload_n 0, 1) := by decide +kernel
theorem d122_27 : decode (pg_code 122) 27 = .ok (.getfield 107, 3) := by decide +kernel
theorem d122_30 : decode (pg_code 122) 30 = .ok (.aload_n 0, 1) := by decide +kernel
theorem d122_31 : decode (pg_code 122) 31 = .ok (.getfield 65, 3) := by decide +kernel
theorem d122_34 : decode (pg_code 122) 34 = .ok (.iload 6, 2) := by decide +kernel
theorem d122_36 : decode (pg_code 122) 36 = .ok (.iaload, 1) := by decide +kernel
theorem d122_37 : decode (pg_code 122) 37 = .ok (.iload_n 2, 1) := by decide +kernel
theorem d122_38 : decode (pg_code 122) 38 = .ok (.isub, 1) := by decide +kernel
theorem d122_39 : decode (pg_code 122) 39 = .ok (.iconst 1, 1) := by decide +kernel
theorem d122_40 : decode (pg_code 122) 40 = .ok (.bastore, 1) := by decide +kernel
theorem d122_41 : decode (pg_code 122) 41 = .ok (.aload_n 0, 1) := by decide +kernel
theorem d122_42 : decode (pg_code 122) 42 = .ok (.getfield 110, 3) := by decide +kernel
theorem d122_45 : decode (pg_code 122) 45 = .ok (.iload 5, 2) := by decide +kernel
theorem d122_47 : decode (pg_code 122) 47 = .ok (.aload_n 0, 1) := by decide +kernel
theorem d122_48 : decode (pg_code 122) 48 = .ok (.getfield 65, 3) := by decide +kernel
theorem d122_51 : decode (pg_code 122) 51 = .ok (.iload 6, 2) := by decide +kernel
theorem d122_53 : decode (pg_code 122) 53 = .ok (.iaload, 1) := by decide +kernel
theorem d122_54 : decode (pg_code 122) 54 = .ok (.iastore, 1) := by decide +kernel
theorem d122_55 : decode (pg_code 122) 55 = .ok (.iconst 1, 1) := by decide +kernel
theorem d122_56 : decode (pg_code 122) 56 = .ok (.ireturn, 1) := by decide +kernel
theorem d122_57 : decode (pg_code 122) 57 = .ok (.aload_n 0, 1) := by decide +kernel
theorem d122_58 : decode (pg_code 122) 58 = .ok (.iload_n 3, 1) := by decide +kernel
theorem d122_59 : decode (pg_code 122) 59 = .ok (.iload 4, 2) := by decide +kernel
theorem d122_61 : decode (pg_code 122) 61 = .ok (.invokevirtual 240, 3) := by decide +kernel
theorem d122_64 : decode (pg_code 122) 64 = .ok (.ifCond .ne 5, 3) := by decide +kernel
theorem d122_67 : decode (pg_code 122) 67 = .ok (.iconst 0, 1) := by decide +kernel
theorem d122_68 : decode (pg_code 122) 68 = .ok (.ireturn, 1) := by decide +kernel
theorem d122_69 : decode (pg_code 122) 69 = .ok (.aload_n 0, 1) := by decide +kernel
theorem d122_70 : decode (pg_code 122) 70 = .ok (.getfield 110, 3) := by decide +kernel
theorem d122_73 : decode (pg_code 122) 73 = .ok (.iload 5, 2) := by decide +kernel
theorem d122_75 : decode (pg_code 122) 75 = .ok (.iload_n 2, 1) := by decide +kernel
theorem d122_76 : decode (pg_code 122) 76 = .ok (.aload_n 0, 1) := by decide +kernel
theorem d122_77 : decode (pg_code 122) 77 = .ok (.getfield 80, 3) := by decide +kernel
theorem d122_80 : decode (pg_code 122) 80 = .ok (.iconst 2, 1) := by decide +kernel
theorem d122_81 : decode (pg_code 122) 81 = .ok (.iaload, 1) := by decide +kernel
theorem d122_82 : decode (pg_code 122) 82 = .ok (.iadd, 1) := by decide +kernel
theorem d122_83 : decode (pg_code 122) 83 = .ok (.iload 5, 2) := by decide +kernel
theorem d122_85 : decode (pg_code 122) 85 = .ok (.iadd, 1) := by decide +kernel
theorem d122_86 : decode (pg_code 122) 86 = .ok (.iastore, 1) := by decide +kernel
theorem d122_87 : decode (pg_code 122) 87 = .ok (.aload_n 0, 1) := by decide +kernel
theorem d122_88 : decode (pg_code 122) 88 = .ok (.iload_n 1, 1) := by decide +kernel
theorem d122_89 : decode (pg_code 122) 89 = .ok (.aload_n 0, 1) := by decide +kernel
theorem d122_90 : decode (pg_code 122) 90 = .ok (.getfield 110, 3) := by decide +kernel
theorem d122_93 : decode (pg_code 122) 93 = .ok (.iload 5, 2) := by decide +kernel
theorem d122_95 : decode (pg_code 122) 95 = .ok (.iaload, 1) := by decide +kernel
theorem d122_96 : decode (pg_code 122) 96 = .ok (.iload_n 3, 1) := by decide +kernel
theorem d122_97 : decode (pg_code 122) 97 = .ok (.iload 4, 2) := by decide +kernel
theorem d122_99 : decode (pg_code 122) 99 = .ok (.invokevirtual 214, 3) := by decide +kernel
theorem d122_102 : decode (pg_code 122) 102 = .ok (.iconst 1, 1) := by decide +kernel
theorem d122_103 : decode (pg_code 122) 103 = .ok (.ireturn, 1) := by decide +kernel
theorem e122 {b1 b2 b3 b4 b5 : Value} : am_Call L xs d 122 [b1, b2, b3, b4, b5] σ Q = am_Rn L xs d 122 0 [b1, b2, b3, b4, b5, .retAddr 0, .retAddr 0] [] σ Q := rfl
theorem r122_0  : am_Rn L xs d 122 0 ls st σ Q = am_la ls 0 (fun x => am_Rn L xs d 122 1 ls (x :: st) σ Q) := am_r_aload_n d122_0
theorem r122_1 {p : Nat} : am_Rn L xs d 122 1 ls (.ref p :: st) σ Q = am_fd σ p 6 20 (fun v => am_Rn L xs d 122 4 ls (v :: st) σ Q) := am_r_getfield d122_1 rfl
theorem r122_4  : am_Rn L xs d 122 4 ls st σ Q = am_li ls 1 (fun x => am_Rn L xs d 122 5 ls (.int x :: st) σ Q) := am_r_iload_n d122_4
theorem r122_5 {p : Nat} {i : Int32} : am_Rn L xs d 122 5 ls (.int i :: .ref p :: st) σ Q = am_ai 0 σ p i (fun x => am_Rn L xs d 122 6 ls (.int x :: st) σ Q) := am_r_iaload d122_5
theorem r122_6  : am_Rn L xs d 122 6 ls st σ Q = am_li ls 2 (fun x => am_Rn L xs d 122 7 ls (.int x :: st) σ Q) := am_r_iload_n d122_6
theorem r122_7 {a b : Int32} : am_Rn L xs d 122 7 ls (.int b :: .int a :: st) σ Q = am_Rn L xs d 122 8 ls (.int (a - b) :: st) σ Q := am_r_isub d122_7
theorem r122_8 {x : Int32} : am_Rn L xs d 122 8 ls (.int x :: st) σ Q = (5 < ls.length ∧ am_Rn L xs d 122 10 (ls.set 5 (.int x)) st σ Q) := am_r_istore d122_8
theorem r122_10  : am_Rn L xs d 122 10 ls st σ Q = am_la ls 0 (fun x => am_Rn L xs d 122 11 ls (x :: st) σ Q) := am_r_aload_n d122_10
theorem r122_11  : am_Rn L xs d 122 11 ls st σ Q = am_li ls 1 (fun x => am_Rn L xs d 122 12 ls (.int x :: st) σ Q) := am_r_iload_n d122_11
theorem r122_12  : am_Rn L xs d 122 12 ls st σ Q = am_li ls 3 (fun x => am_Rn L xs d 122 13 ls (.int x :: st) σ Q) := am_r_iload_n d122_12
theorem r122_13  : am_Rn L xs d 122 13 ls st σ Q = am_li ls 4 (fun x => am_Rn L xs d 122 15 ls (.int x :: st) σ Q) := am_r_iload d122_13
theorem r122_15  : am_Rn L xs d 122 15 ls st σ Q = am_li ls 2 (fun x => am_Rn L xs d 122 16 ls (.int x :: st) σ Q) := am_r_iload_n d122_15
theorem r122_16 {a1 a2 a3 a4 : Value} {p : Nat} : am_Rn L xs (d + 1) 122 16 ls (a4 :: a3 :: a2 :: a1 :: .ref p :: st) σ Q = ((am_oc σ p = 6 ∧ st.length ≤ 4 ∧ am_ok a1 = true ∧ am_ok a2 = true ∧ am_ok a3 = true ∧ am_ok a4 = true) ∧ am_Call L xs d 123 [.ref p, a1, a2, a3, a4] σ (fun r σ1 => am_Rn L xs (d + 1) 122 19 ls (r.toList ++ st) σ1 Q)) := am_R_virtual4 d122_16 rfl ⟨by decide, rfl⟩ rfl rfl (by decide)
theorem r122_19 {x : Int32} : am_Rn L xs d 122 19 ls (.int x :: st) σ Q = (6 < ls.length ∧ am_Rn L xs d 122 21 (ls.set 6 (.int x)) st σ Q) := am_r_istore d122_19
theorem r122_21  : am_Rn L xs d 122 21 ls st σ Q = am_li ls 6 (fun x => am_Rn L xs d 122 23 ls (.int x :: st) σ Q) := am_r_iload d122_21
theorem r122_23 {a : Int32} : am_Rn L xs d 122 23 ls (.int a :: st) σ Q = if a < 0 then am_Rn L xs d 122 57 ls st σ Q else am_Rn L xs d 122 26 ls st σ Q := (am_r_if (t := 57) d122_23 (by decide)).trans (am_ite _ _ trivial (by simp only [am_cond, decide_eq_true_eq]))
theorem r122_26  : am_Rn L xs d 122 26 ls st σ Q = am_la ls 0 (fun x => am_Rn L xs d 122 27 ls (x :: st) σ Q) := am_r_aload_n d122_26
theorem r122_27 {p : Nat} : am_Rn L xs d 122 27 ls (.ref p :: st) σ Q = am_fd σ p 6 38 (fun v => am_Rn L xs d 122 30 ls (v :: st) σ Q) := am_r_getfield d122_27 rfl
theorem r122_30  : am_Rn L xs d 122 30 ls st σ Q = am_la ls 0 (fun x => am_Rn L xs d 122 31 ls (x :: st) σ Q) := am_r_aload_n d122_30
theorem r122_31 {p : Nat} : am_Rn L xs d 122 31 ls (.ref p :: st) σ Q = am_fd σ p 6 20 (fun v => am_Rn L xs d 122 34 ls (v :: st) σ Q) := am_r_getfield d122_31 rfl
theorem r122_34  : am_Rn L xs d 122 34 ls st σ Q = am_li ls 6 (fun x => am_Rn L xs d 122 36 ls (.int x :: st) σ Q) := am_r_iload d122_34
theorem r122_36 {p : Nat} {i : Int32} : am_Rn L xs d 122 36 ls (.int i :: .ref p :: st) σ Q = am_ai 0 σ p i (fun x => am_Rn L xs d 122 37 ls (.int x :: st) σ Q) := am_r_iaload d122_36
theorem r122_37  : am_Rn L xs d 122 37 ls st σ Q = am_li ls 2 (fun x => am_Rn L xs d 122 38 ls (.int x :: st) σ Q) := am_r_iload_n d122_37
theorem r122_38 {a b : Int32} : am_Rn L xs d 122 38 ls (.int b :: .int a :: st) σ Q = am_Rn L xs d 122 39 ls (.int (a - b) :: st) σ Q := am_r_isub d122_38
theorem r122_39  : am_Rn L xs d 122 39 ls st σ Q = am_Rn L xs d 122 40 ls (.int 1 :: st) σ Q := am_r_iconst d122_39 (by decide)
theorem r122_40 {p : Nat} {i x : Int32} : am_Rn L xs d 122 40 ls (.int x :: .int i :: .ref p :: st) σ Q = am_wi 1 σ p i (vp_nar .boolean x) (fun σ1 => am_Rn L xs d 122 41 ls st σ1 Q) := am_r_bastore d122_40
theorem r122_41  : am_Rn L xs d 122 41 ls st σ Q = am_la ls 0 (fun x => am_Rn L xs d 122 42 ls (x :: st) σ Q) := am_r_aload_n d122_41
theorem r122_42 {p : Nat} : am_Rn L xs d 122 42 ls (.ref p :: st) σ Q = am_fd σ p 6 39 (fun v => am_Rn L xs d 122 45 ls (v :: st) σ Q) := am_r_getfield d122_42 rfl
theorem r122_45  : am_Rn L xs d 122 45 ls st σ Q = am_li ls 5 (fun x => am_Rn L xs d 122 47 ls (.int x :: st) σ Q) := am_r_iload d122_45
theorem r122_47  : am_Rn L xs d 122 47 ls st σ Q = am_la ls 0 (fun x => am_Rn L xs d 122 48 ls (x :: st) σ Q) := am_r_aload_n d122_47
theorem r122_48 {p : Nat} : am_Rn L xs d 122 48 ls (.ref p :: st) σ Q = am_fd σ p 6 20 (fun v => am_Rn L xs d 122 51 ls (v :: st) σ Q) := am_r_getfield d122_48 rfl
theorem r122_51  : am_Rn L xs d 122 51 ls st σ Q = am_li ls 6 (fun x => am_Rn L xs d 122 53 ls (.int x :: st) σ Q) := am_r_iload d122_51
theorem r122_53 {p : Nat} {i : Int32} : am_Rn L xs d 122 53 ls (.int i :: .ref p :: st) σ Q = am_ai 0 σ p i (fun x => am_Rn L xs d 122 54 ls (.int x :: st) σ Q) := am_r_iaload d122_53
theorem r122_54 {p : Nat} {i x : Int32} : am_Rn L xs d 122 54 ls (.int x :: .int i :: .ref p :: st) σ Q = am_wi 0 σ p i x (fun σ1 => am_Rn L xs d 122 55 ls st σ1 Q) := am_r_iastore d122_54
theorem r122_55  : am_Rn L xs d 122 55 ls st σ Q = am_Rn L xs d 122 56 ls (.int 1 :: st) σ Q := am_r_iconst d122_55 (by decide)
theorem r122_56 {v : Int32} (hv : v = 0 ∨ v = 1) : am_Rn L xs d 122 56 ls [.int v] σ Q = Q (some (.int v)) σ := am_r_zreturn d122_56 rfl hv
theorem r122_57  : am_Rn L xs d 122 57 ls st σ Q = am_la ls 0 (fun x => am_Rn L xs d 122 58 ls (x :: st) σ Q) := am_r_aload_n d122_57
theorem r122_58  : am_Rn L xs d 122 58 ls st σ Q = am_li ls 3 (fun x => am_Rn L xs d 122 59 ls (.int x :: st) σ Q) := am_r_iload_n d122_58
theorem r122_59  : am_Rn L xs d 122 59 ls st σ Q = am_li ls 4 (fun x => am_Rn L xs d 122 61 ls (.int x :: st) σ Q) := am_r_iload d122_59
theorem r122_61 {a1 a2 : Value} {p : Nat} : am_Rn L xs (d + 1) 122 61 ls (a2 :: a1 :: .ref p :: st) σ Q = ((am_oc σ p = 6 ∧ st.length ≤ 4 ∧ am_ok a1 = true ∧ am_ok a2 = true) ∧ am_Call L xs d 124 [.ref p, a1, a2] σ (fun r σ1 => am_Rn L xs (d + 1) 122 64 ls (r.toList ++ st) σ1 Q)) := am_R_virtual2 d122_61 rfl ⟨by decide, rfl⟩ rfl rfl (by decide)
theorem r122_64 {a : Int32} : am_Rn L xs d 122 64 ls (.int a :: st) σ Q = if ¬ a = 0 then am_Rn L xs d 122 69 ls st σ Q else am_Rn L xs d 122 67 ls st σ Q := (am_r_if (t := 69) d122_64 (by decide)).trans (am_ite _ _ trivial (by simp only [am_cond, decide_eq_true_eq]))
theorem r122_67  : am_Rn L xs d 122 67 ls st σ Q = am_Rn L xs d 122 68 ls (.int 0 :: st) σ Q := am_r_iconst d122_67 (by decide)
theorem r122_68 {v : Int32} (hv : v = 0 ∨ v = 1) : am_Rn L xs d 122 68 ls [.int v] σ Q = Q (some (.int v)) σ := am_r_zreturn d122_68 rfl hv
theorem r122_69  : am_Rn L xs d 122 69 ls st σ Q = am_la ls 0 (fun x => am_Rn L xs d 122 70 ls (x :: st) σ Q) := am_r_aload_n d122_69
theorem r122_70 {p : Nat} : am_Rn L xs d 122 70 ls (.ref p :: st) σ Q = am_fd σ p 6 39 (fun v => am_Rn L xs d 122 73 ls (v :: st) σ Q) := am_r_getfield d122_70 rfl
theorem r122_73  : am_Rn L xs d 122 73 ls st σ Q = am_li ls 5 (fun x => am_Rn L xs d 122 75 ls (.int x :: st) σ Q) := am_r_iload d122_73
theorem r122_75  : am_Rn L xs d 122 75 ls st σ Q = am_li ls 2 (fun x => am_Rn L xs d 122 76 ls (.int x :: st) σ Q) := am_r_iload_n d122_75
theorem r122_76  : am_Rn L xs d 122 76 ls st σ Q = am_la ls 0 (fun x => am_Rn L xs d 122 77 ls (x :: st) σ Q) := am_r_aload_n d122_76
theorem r122_77 {p : Nat} : am_Rn L xs d 122 77 ls (.ref p :: st) σ Q = am_fd σ p 6 25 (fun v => am_Rn L xs d 122 80 ls (v :: st) σ Q) := am_r_getfield d122_77 rfl
theorem r122_80  : am_Rn L xs d 122 80 ls st σ Q = am_Rn L xs d 122 81 ls (.int 2 :: st) σ Q := am_r_iconst d122_80 (by decide)
theorem r122_81 {p : Nat} {i : Int32} : am_Rn L xs d 122 81 ls (.int i :: .ref p :: st) σ Q = am_ai 0 σ p i (fun x => am_Rn L xs d 122 82 ls (.int x :: st) σ Q) := am_r_iaload d122_81
theorem r122_82 {a b : Int32} : am_Rn L xs d 122 82 ls (.int b :: .int a :: st) σ Q = am_Rn L xs d 122 83 ls (.int (a + b) :: st) σ Q := am_r_iadd d122_82
theorem r122_83  : am_Rn L xs d 122 83 ls st σ Q = am_li ls 5 (fun x => am_Rn L xs d 122 85 ls (.int x :: st) σ Q) := am_r_iload d122_83
theorem r122_85 {a b : Int32} : am_Rn L xs d 122 85 ls (.int b :: .int a :: st) σ Q = am_Rn L xs d 122 86 ls (.int (a + b) :: st) σ Q := am_r_iadd d122_85
theorem r122_86 {p : Nat} {i x : Int32} : am_Rn L xs d 122 86 ls (.int x :: .int i :: .ref p :: st) σ Q = am_wi 0 σ p i x (fun σ1 => am_Rn L xs d 122 87 ls st σ1 Q) := am_r_iastore d122_86
theorem r122_87  : am_Rn L xs d 122 87 ls st σ Q = am_la ls 0 (fun x => am_Rn L xs d 122 88 ls (x :: st) σ Q) := am_r_aload_n d122_87
theorem r122_88  : am_Rn L xs d 122 88 ls st σ Q = am_li ls 1 (fun x => am_Rn L xs d 122 89 ls (.int x :: st) σ Q) := am_r_iload_n d122_88
theorem r122_89  : am_Rn L xs d 122 89 ls st σ Q = am_la ls 0 (fun x => am_Rn L xs d 122 90 ls (x :: st) σ Q) := am_r_aload_n d122_89
theorem r122_90 {p : Nat} : am_Rn L xs d 122 90 ls (.ref p :: st) σ Q = am_fd σ p 6 39 (fun v => am_Rn L xs d 122 93 ls (v :: st) σ Q) := am_r_getfield d122_90 rfl
theorem r122_93  : am_Rn L xs d 122 93 ls st σ Q = am_li ls 5 (fun x => am_Rn L xs d 122 95 ls (.int x :: st) σ Q) := am_r_iload d122_93
theorem r122_95 {p : Nat} {i : Int32} : am_Rn L xs d 122 95 ls (.int i :: .ref p :: st) σ Q = am_ai 0 σ p i (fun x => am_Rn L xs d 122 96 ls (.int x :: st) σ Q) := am_r_iaload d122_95
theorem r122_96  : am_Rn L xs d 122 96 ls st σ Q = am_li ls 3 (fun x => am_Rn L xs d 122 97 ls (.int x :: st) σ Q) := am_r_iload_n d122_96
theorem r122_97  : am_Rn L xs d 122 97 ls st σ Q = am_li ls 4 (fun x => am_Rn L xs d 122 99 ls (.int x :: st) σ Q) := am_r_iload d122_97
theorem r122_99 {a1 a2 a3 a4 : Value} {p : Nat} : am_Rn L xs (d + 1) 122 99 ls (a4 :: a3 :: a2 :: a1 :: .ref p :: st) σ Q = ((am_oc σ p = 6 ∧ st.length ≤ 4 ∧ am_ok a1 = true ∧ am_ok a2 = true ∧ am_ok a3 = true ∧ am_ok a4 = true) ∧ am_Call L xs d 114 [.ref p, a1, a2, a3, a4] σ (fun r σ1 => am_Rn L xs (d + 1) 122 102 ls (r.toList ++ st) σ1 Q)) := am_R_virtual4 d122_99 rfl ⟨by decide, rfl⟩ rfl rfl (by decide)
theorem r122_102  : am_Rn L xs d 122 102 ls st σ Q = am_Rn L xs d 122 103 ls (.int 1 :: st) σ Q := am_r_iconst d122_102 (by decide)
theorem r122_103 {v : Int32} (hv : v = 0 ∨ v = 1) : am_Rn L xs d 122 103 ls [.int v] σ Q = Q (some (.int v)) σ := am_r_zreturn d122_103 rfl hv
theorem d123_0 : decode (pg_code 123) 0 = .ok (.bipush 80, 2) := by decide +kernel
theorem d123_2 : decode (pg_code 123) 2 = .ok (.istore 5, 2) := by decide +kernel
theorem d123_4 : decode (pg_code 123) 4 = .ok (.iload 5, 2) := by decide +kernel
theorem d123_6 : decode (pg_code 123) 6 = .ok (.bipush 80, 2) := by decide +kernel
theorem d123_8 : decode (pg_code 123) 8 = .ok (.aload_n 0, 1) := by decide +kernel
theorem d123_9 : decode (pg_code 123) 9 = .ok (.getfield 59, 3) := by decide +kernel
theorem d123_12 : decode (pg_code 123) 12 = .ok (.iconst 2, 1) := by decide +kernel
theorem d123_13 : decode (pg_code 123) 13 = .ok (.iaload, 1) := by decide +kernel
theorem d123_14 : decode (pg_code 123) 14 = .ok (.iadd, 1) := by decide +kernel
theorem d123_15 : decode (pg_code 123) 15 = .ok (.if_icmp .ge 106, 3) := by decide +kernel
theorem d123_18 : decode (pg_code 123) 18 = .ok (.aload_n 0, 1) := by decide +kernel
theorem d123_19 : decode (pg_code 123) 19 = .ok (.getfield 62, 3) := by decide +kernel
theorem d123_22 : decode (pg_code 123) 22 = .ok (.iload 5, 2) := by decide +kernel
theorem d123_24 : decode (pg_code 123) 24 = .ok (.iaload, 1) := by decide +kernel
theorem d123_25 : decode (pg_code 123) 25 = .ok (.ifCond .ne 61, 3) := by decide +kernel
theorem d123_28 : decode (pg_code 123) 28 = .ok (.aload_n 0, 1) := by decide +kernel
theorem d123_29 : decode (pg_code 123) 29 = .ok (.getfield 74, 3) := by decide +kernel
theorem d123_32 : decode (pg_code 123) 32 = .ok (.iload 5, 2) := by decide +kernel
theorem d123_34 : decode (pg_code 123) 34 = .ok (.iaload, 1) := by decide +kernel
theorem d123_35 : decode (pg_code 123) 35 = .ok (.aload_n 0, 1) := by decide +kernel
theorem d123_36 : decode (pg_code 123) 36 = .ok (.getfield 74, 3) := by decide +kernel
theorem d123_39 : decode (pg_code 123) 39 = .ok (.iload_n 1, 1) := by decide +kernel
theorem d123_40 : decode (pg_code 123) 40 = .ok (.iaload, 1) := by decide +kernel
theorem d123_41 : decode (pg_code 123) 41 = .ok (.if_icmp .ne 45, 3) := by decide +kernel
theorem d123_44 : decode (pg_code 123) 44 = .ok (.aload_n 0, 1) := by decide +kernel
theorem d123_45 : decode (pg_code 123) 45 = .ok (.getfield 77, 3) := by decide +kernel
theorem d123_48 : decode (pg_code 123) 48 = .ok (.iload 5, 2) := by decide +kernel
theorem d123_50 : decode (pg_code 123) 50 = .ok (.iaload, 1) := by decide +kernel
theorem d123_51 : decode (pg_code 123) 51 = .ok (.aload_n 0, 1) := by decide +kernel
theorem d123_52 : decode (pg_code 123) 52 = .ok (.getfield 77, 3) := by decide +kernel
theorem d123_55 : decode (pg_code 123) 55 = .ok (.iload_n 1, 1) := by decide +kernel
theorem d123_56 : decode (pg_code 123) 56 = .ok (.iaload, 1) := by decide +kernel
theorem d123_57 : decode (pg_code 123) 57 = .ok (.if_icmp .ne 29, 3) := by decide +kernel
theorem d123_60 : decode (pg_code 123) 60 = .ok (.aload_n 0, 1) := by decide +kernel
theorem d123_61 : decode (pg_code 123) 61 = .ok (.getfield 68, 3) := by decide +kernel
theorem d123_64 : decode (pg_code 123) 64 = .ok (.iload 5, 2) := by decide +kernel
theorem d123_66 : decode (pg_code 123) 66 = .ok (.iaload, 1) := by decide +kernel
theorem d123_67 : decode (pg_code 123) 67 = .ok (.iload_n 2, 1) := by decide +kernel
theorem d123_68 : decode (pg_code 123) 68 = .ok (.if_icmp .ne 18, 3) := by decide +kernel
theorem d123_71 : decode (pg_code 123) 71 = .ok (.aload_n 0, 1) := by decide +kernel
theorem d123_72 : decode (pg_code 123) 72 = .ok (.getfield 71, 3) := by decide +kernel
theorem d123_75 : decode (pg_code 123) 75 = .ok (.iload 5, 2) := by decide +kernel
theorem d123_77 : decode (pg_code 123) 77 = .ok (.iaload, 1) := by decide +kernel
theorem d123_78 : decode (pg_code 123) 78 = .ok (.iload_n 3, 1) := by decide +kernel
theorem d123_79 : decode (pg_code 123) 79 = .ok (.if_icmp .ne 7, 3) := by decide +kernel
theorem d123_82 : decode (pg_code 123) 82 = .ok (.iconst 1, 1) := by decide +kernel
theorem d123_83 : decode (pg_code 123) 83 = .ok (.goto 4, 3) := by decide +kernel
theorem d123_86 : decode (pg_code 123) 86 = .ok (.iconst 0, 1) := by decide +kernel
theorem d123_87 : decode (pg_code 123) 87 = .ok (.istore 6, 2) := by decide +kernel
theorem d123_89 : decode (pg_code 123) 89 = .ok (.iload 6, 2) := by decide +kernel
theorem d123_91 : decode (pg_code 123) 91 = .ok (.ifCond .eq 24, 3) := by decide +kernel
theorem d123_94 : decode (pg_code 123) 94 = .ok (.aload_n 0, 1) := by decide +kernel
theorem d123_95 : decode (pg_code 123) 95 = .ok (.getfield 107, 3) := by decide +kernel
theorem d123_98 : decode (pg_code 123) 98 = .ok (.aload_n 0, 1) := by decide +kernel
theorem d123_99 : decode (pg_code 123) 99 = .ok (.getfield 65, 3) := by decide +kernel
theorem d123_102 : decode (pg_code 123) 102 = .ok (.iload 5, 2) := by decide +kernel
theorem d123_104 : decode (pg_code 123) 104 = .ok (.iaload, 1) := by decide +kernel
theorem d123_105 : decode (pg_code 123) 105 = .ok (.iload 4, 2) := by decide +kernel
theorem d123_107 : decode (pg_code 123) 107 = .ok (.isub, 1) := by decide +kernel
theorem d123_108 : decode (pg_code 123) 108 = .ok (.baload, 1) := by decide +kernel
theorem d123_109 : decode (pg_code 123) 109 = .ok (.ifCond .ne 6, 3) := by decide +kernel
theorem d123_112 : decode (pg_code 123) 112 = .ok (.iload 5, 2) := by decide +kernel
theorem d123_114 : decode (pg_code 123) 114 = .ok (.ireturn, 1) := by decide +kernel
theorem d123_115 : decode (pg_code 123) 115 = .ok (.iinc 5 1, 3) := by decide +kernel
theorem d123_118 : decode (pg_code 123) 118 = .ok (.goto (-114), 3) := by decide +kernel
theorem d123_121 : decode (pg_code 123) 121 = .ok (.iconst (-1), 1) := by decide +kernel
theorem d123_122 : decode (pg_code 123) 122 = .ok (.ireturn, 1) := by decide +kernel
theorem e123 {b1 b2 b3 b4 b5 : Value} : am_Call L xs d 123 [b1, b2, b3, b4, b5] σ Q = am_Rn L xs d 123 0 [b1, b2, b3, b4, b5, .retAddr 0, .retAddr 0] [] σ Q := rfl
theorem r123_0  : am_Rn L xs d 123 0 ls st σ Q = am_Rn L xs d 123 2 ls (.int 80 :: st) σ Q := am_r_bipush d123_0 (by decide)
theorem r123_2 {x : Int32} : am_Rn L xs d 123 2 ls (.int x :: st) σ Q = (5 < ls.length ∧ am_Rn L xs d 123 4 (ls.set 5 (.int x)) st σ Q) := am_r_istore d123_2
theorem r123_4  : am_Rn L xs d 123 4 ls st σ Q = am_li ls 5 (fun x => am_Rn L xs d 123 6 ls (.int x :: st) σ Q) := am_r_iload d123_4
theorem r123_6  : am_Rn L xs d 123 6 ls st σ Q = am_Rn L xs d 123 8 ls (.int 80 :: st) σ Q := am_r_bipush d123_6 (by decide)
theorem r123_8  : am_Rn L xs d 123 8 ls st σ Q = am_la ls 0 (fun x => am_Rn L xs d 123 9 ls (x :: st) σ Q) := am_r_aload_n d123_8
theorem r123_9 {p : Nat} : am_Rn L xs d 123 9 ls (.ref p :: st) σ Q = am_fd σ p 6 18 (fun v => am_Rn L xs d 123 12 ls (v :: st) σ Q) := am_r_getfield d123_9 rfl
theorem r123_12  : am_Rn L xs d 123 12 ls st σ Q = am_Rn L xs d 123 13 ls (.int 2 :: st) σ Q := am_r_iconst d123_12 (by decide)
theorem r123_13 {p : Nat} {i : Int32} : am_Rn L xs d 123 13 ls (.int i :: .ref p :: st) σ Q = am_ai 0 σ p i (fun x => am_Rn L xs d 123 14 ls (.int x :: st) σ Q) := am_r_iaload d123_13
theorem r123_14 {a b : Int32} : am_Rn L xs d 123 14 ls (.int b :: .int a :: st) σ Q = am_Rn L xs d 123 15 ls (.int (a + b) :: st) σ Q := am_r_iadd d123_14
theorem r123_15 {a b : Int32} : am_Rn L xs d 123 15 ls (.int b :: .int a :: st) σ Q = if b ≤ a then am_Rn L xs d 123 121 ls st σ Q else am_Rn L xs d 123 18 ls st σ Q := (am_r_icmp (t := 121) d123_15 (by decide)).trans (am_ite _ _ trivial (by simp only [am_cond, decide_eq_true_eq]))
theorem r123_18  : am_Rn L xs d 123 18 ls st σ Q = am_la ls 0 (fun x => am_Rn L xs d 123 19 ls (x :: st) σ Q) := am_r_aload_n d123_18
theorem r123_19 {p : Nat} : am_Rn L xs d 123 19 ls (.ref p :: st) σ Q = am_fd σ p 6 19 (fun v => am_Rn L xs d 123 22 ls (v :: st) σ Q) := am_r_getfield d123_19 rfl
theorem r123_22  : am_Rn L xs d 123 22 ls st σ Q = am_li ls 5 (fun x => am_Rn L xs d 123 24 ls (.int x :: st) σ Q) := am_r_iload d123_22
theorem r123_24 {p : Nat} {i : Int32} : am_Rn L xs d 123 24 ls (.int i :: .ref p :: st) σ Q = am_ai 0 σ p i (fun x => am_Rn L xs d 123 25 ls (.int x :: st) σ Q) := am_r_iaload d123_24
theorem r123_25 {a : Int32} : am_Rn L xs d 123 25 ls (.int a :: st) σ Q = if ¬ a = 0 then am_Rn L xs d 123 86 ls st σ Q else am_Rn L xs d 123 28 ls st σ Q := (am_r_if (t := 86) d123_25 (by decide)).trans (am_ite _ _ trivial (by simp only [am_cond, decide_eq_true_eq]))
theorem r123_28  : am_Rn L xs d 123 28 ls st σ Q = am_la ls 0 (fun x => am_Rn L xs d 123 29 ls (x :: st) σ Q) := am_r_aload_n d123_28
theorem r123_29 {p : Nat} : am_Rn L xs d 123 29 ls (.ref p :: st) σ Q = am_fd σ p 6 23 (fun v => am_Rn L xs d 123 32 ls (v :: st) σ Q) := am_r_getfield d123_29 rfl
theorem r123_32  : am_Rn L xs d 123 32 ls st σ Q = am_li ls 5 (fun x => am_Rn L xs d 123 34 ls (.int x :: st) σ Q) := am_r_iload d123_32
theorem r123_34 {p : Nat} {i : Int32} : am_Rn L xs d 123 34 ls (.int i :: .ref p :: st) σ Q = am_ai 0 σ p i (fun x => am_Rn L xs d 123 35 ls (.int x :: st) σ Q) := am_r_iaload d123_34
theorem r123_35  : am_Rn L xs d 123 35 ls st σ Q = am_la ls 0 (fun x => am_Rn L xs d 123 36 ls (x :: st) σ Q) := am_r_aload_n d123_35
theorem r123_36 {p : Nat} : am_Rn L xs d 123 36 ls (.ref p :: st) σ Q = am_fd σ p 6 23 (fun v => am_Rn L xs d 123 39 ls (v :: st) σ Q) := am_r_getfield d123_36 rfl
theorem r123_39  : am_Rn L xs d 123 39 ls st σ Q = am_li ls 1 (fun x => am_Rn L xs d 123 40 ls (.int x :: st) σ Q) := am_r_iload_n d123_39
theorem r123_40 {p : Nat} {i : Int32} : am_Rn L xs d 123 40 ls (.int i :: .ref p :: st) σ Q = am_ai 0 σ p i (fun x => am_Rn L xs d 123 41 ls (.int x :: st) σ Q) := am_r_iaload d123_40
theorem r123_41 {a b : Int32} : am_Rn L xs d 123 41 ls (.int b :: .int a :: st) σ Q = if ¬ a = b then am_Rn L xs d 123 86 ls st σ Q else am_Rn L xs d 123 44 ls st σ Q := (am_r_icmp (t := 86) d123_41 (by decide)).trans (am_ite _ _ trivial (by simp only [am_cond, decide_eq_true_eq]))
theorem r123_44  : am_Rn L xs d 123 44 ls st σ Q = am_la ls 0 (fun x => am_Rn L xs d 123 45 ls (x :: st) σ Q) := am_r_aload_n d123_44
theorem r123_45 {p : Nat} : am_Rn L xs d 123 45 ls (.ref p :: st) σ Q = am_fd σ p 6 24 (fun v => am_Rn L xs d 123 48 ls (v :: st) σ Q) := am_r_getfield d123_45 rfl
theorem r123_48  : am_Rn L xs d 123 48 ls st σ Q = am_li ls 5 (fun x => am_Rn L xs d 123 50 ls (.int x :: st) σ Q) := am_r_iload d123_48
theorem r123_50 {p : Nat} {i : Int32} : am_Rn L xs d 123 50 ls (.int i :: .ref p :: st) σ Q = am_ai 0 σ p i (fun x => am_Rn L xs d 123 51 ls (.int x :: st) σ Q) := am_r_iaload d123_50
theorem r123_51  : am_Rn L xs d 123 51 ls st σ Q = am_la ls 0 (fun x => am_Rn L xs d 123 52 ls (x :: st) σ Q) := am_r_aload_n d123_51
theorem r123_52 {p : Nat} : am_Rn L xs d 123 52 ls (.ref p :: st) σ Q = am_fd σ p 6 24 (fun v => am_Rn L xs d 123 55 ls (v :: st) σ Q) := am_r_getfield d123_52 rfl
theorem r123_55  : am_Rn L xs d 123 55 ls st σ Q = am_li ls 1 (fun x => am_Rn L xs d 123 56 ls (.int x :: st) σ Q) := am_r_iload_n d123_55
theorem r123_56 {p : Nat} {i : Int32} : am_Rn L xs d 123 56 ls (.int i :: .ref p :: st) σ Q = am_ai 0 σ p i (fun x => am_Rn L xs d 123 57 ls (.int x :: st) σ Q) := am_r_iaload d123_56
theorem r123_57 {a b : Int32} : am_Rn L xs d 123 57 ls (.int b :: .int a :: st) σ Q = if ¬ a = b then am_Rn L xs d 123 86 ls st σ Q else am_Rn L xs d 123 60 ls st σ Q := (am_r_icmp (t := 86) d123_57 (by decide)).trans (am_ite _ _ trivial (by simp only [am_cond, decide_eq_true_eq]))
theorem r123_60  : am_Rn L xs d 123 60 ls st σ Q = am_la ls 0 (fun x => am_Rn L xs d 123 61 ls (x :: st) σ Q) := am_r_aload_n d123_60
theorem r123_61 {p : Nat} : am_Rn L xs d 123 61 ls (.ref p :: st) σ Q = am_fd σ p 6 21 (fun v => am_Rn L xs d 123 64 ls (v :: st) σ Q) := am_r_getfield d123_61 rfl
theorem r123_64  : am_Rn L xs d 123 64 ls st σ Q = am_li ls 5 (fun x => am_Rn L xs d 123 66 ls (.int x :: st) σ Q) := am_r_iload d123_64
theorem r123_66 {p : Nat} {i : Int32} : am_Rn L xs d 123 66 ls (.int i :: .ref p :: st) σ Q = am_ai 0 σ p i (fun x => am_Rn L xs d 123 67 ls (.int x :: st) σ Q) := am_r_iaload d123_66
theorem r123_67  : am_Rn L xs d 123 67 ls st σ Q = am_li ls 2 (fun x => am_Rn L xs d 123 68 ls (.int x :: st) σ Q) := am_r_iload_n d123_67
theorem r123_68 {a b : Int32} : am_Rn L xs d 123 68 ls (.int b :: .int a :: st) σ Q = if ¬ a = b then am_Rn L xs d 123 86 ls st σ Q else am_Rn L xs d 123 71 ls st σ Q := (am_r_icmp (t := 86) d123_68 (by decide)).trans (am_ite _ _ trivial (by simp only [am_cond, decide_eq_true_eq]))
theorem r123_71  : am_Rn L xs d 123 71 ls st σ Q = am_la ls 0 (fun x => am_Rn L xs d 123 72 ls (x :: st) σ Q) := am_r_aload_n d123_71
theorem r123_72 {p : Nat} : am_Rn L xs d 123 72 ls (.ref p :: st) σ Q = am_fd σ p 6 22 (fun v => am_Rn L xs d 123 75 ls (v :: st) σ Q) := am_r_getfield d123_72 rfl
theorem r123_75  : am_Rn L xs d 123 75 ls st σ Q = am_li ls 5 (fun x => am_Rn L xs d 123 77 ls (.int x :: st) σ Q) := am_r_iload d123_75
theorem r123_77 {p : Nat} {i : Int32} : am_Rn L xs d 123 77 ls (.int i :: .ref p :: st) σ Q = am_ai 0 σ p i (fun x => am_Rn L xs d 123 78 ls (.int x :: st) σ Q) := am_r_iaload d123_77
theorem r123_78  : am_Rn L xs d 123 78 ls st σ Q = am_li ls 3 (fun x => am_Rn L xs d 123 79 ls (.int x :: st) σ Q) := am_r_iload_n d123_78
theorem r123_79 {a b : Int32} : am_Rn L xs d 123 79 ls (.int b :: .int a :: st) σ Q = if ¬ a = b then am_Rn L xs d 123 86 ls st σ Q else am_Rn L xs d 123 82 ls st σ Q := (am_r_icmp (t := 86) d123_79 (by decide)).trans (am_ite _ _ trivial (by simp only [am_cond, decide_eq_true_eq]))
theorem r123_82  : am_Rn L xs d 123 82 ls st σ Q = am_Rn L xs d 123 83 ls (.int 1 :: st) σ Q := am_r_iconst d123_82 (by decide)
theorem r123_83  : am_Rn L xs d 123 83 ls st σ Q = am_Rn L xs d 123 87 ls st σ Q := am_r_goto d123_83 (by decide)
theorem r123_86  : am_Rn L xs d 123 86 ls st σ Q = am_Rn L xs d 123 87 ls (.int 0 :: st) σ Q := am_r_iconst d123_86 (by decide)
theorem r123_87 {x : Int32} : am_Rn L xs d 123 87 ls (.int x :: st) σ Q = (6 < ls.length ∧ am_Rn L xs d 123 89 (ls.set 6 (.int x)) st σ Q) := am_r_istore d123_87
theorem r123_89  : am_Rn L xs d 123 89 ls st σ Q = am_li ls 6 (fun x => am_Rn L xs d 123 91 ls (.int x :: st) σ Q) := am_r_iload d123_89
theorem r123_91 {a : Int32} : am_Rn L xs d 123 91 ls (.int a :: st) σ Q = if a = 0 then am_Rn L xs d 123 115 ls st σ Q else am_Rn L xs d 123 94 ls st σ Q := (am_r_if (t := 115) d123_91 (by decide)).trans (am_ite _ _ trivial (by simp only [am_cond, decide_eq_true_eq]))
theorem r123_94  : am_Rn L xs d 123 94 ls st σ Q = am_la ls 0 (fun x => am_Rn L xs d 123 95 ls (x :: st) σ Q) := am_r_aload_n d123_94
theorem r123_95 {p : Nat} : am_Rn L xs d 123 95 ls (.ref p :: st) σ Q = am_fd σ p 6 38 (fun v => am_Rn L xs d 123 98 ls (v :: st) σ Q) := am_r_getfield d123_95 rfl
theorem r123_98  : am_Rn L xs d 123 98 ls st σ Q = am_la ls 0 (fun x => am_Rn L xs d 123 99 ls (x :: st) σ Q) := am_r_aload_n d123_98
theorem r123_99 {p : Nat} : am_Rn L xs d 123 99 ls (.ref p :: st) σ Q = am_fd σ p 6 20 (fun v => am_Rn L xs d 123 102 ls (v :: st) σ Q) := am_r_getfield d123_99 rfl
theorem r123_102  : am_Rn L xs d 123 102 ls st σ Q = am_li ls 5 (fun x => am_Rn L xs d 123 104 ls (.int x :: st) σ Q) := am_r_iload d123_102
theorem r123_104 {p : Nat} {i : Int32} : am_Rn L xs d 123 104 ls (.int i :: .ref p :: st) σ Q = am_ai 0 σ p i (fun x => am_Rn L xs d 123 105 ls (.int x :: st) σ Q) := am_r_iaload d123_104
theorem r123_105  : am_Rn L xs d 123 105 ls st σ Q = am_li ls 4 (fun x => am_Rn L xs d 123 107 ls (.int x :: st) σ Q) := am_r_iload d123_105
theorem r123_107 {a b : Int32} : am_Rn L xs d 123 107 ls (.int b :: .int a :: st) σ Q = am_Rn L xs d 123 108 ls (.int (a - b) :: st) σ Q := am_r_isub d123_107
theorem r123_108 {p : Nat} {i : Int32} : am_Rn L xs d 123 108 ls (.int i :: .ref p :: st) σ Q = am_ai 1 σ p i (fun x => am_Rn L xs d 123 109 ls (.int x :: st) σ Q) := am_r_baload d123_108
theorem r123_109 {a : Int32} : am_Rn L xs d 123 109 ls (.int a :: st) σ Q = if ¬ a = 0 then am_Rn L xs d 123 115 ls st σ Q else am_Rn L xs d 123 112 ls st σ Q := (am_r_if (t := 115) d123_109 (by decide)).trans (am_ite _ _ trivial (by simp only [am_cond, decide_eq_true_eq]))
theorem r123_112  : am_Rn L xs d 123 112 ls st σ Q = am_li ls 5 (fun x => am_Rn L xs d 123 114 ls (.int x :: st) σ Q) := am_r_iload d123_112
theorem r123_114 {v : Int32} : am_Rn L xs d 123 114 ls [.int v] σ Q = Q (some (.int v)) σ := am_r_ireturn d123_114 rfl
theorem r123_115  : am_Rn L xs d 123 115 ls st σ Q = am_li ls 5 (fun x => am_Rn L xs d 123 118 (ls.set 5 (.int (x + 1))) st σ Q) := am_r_iinc d123_115 (by decide)
theorem r123_118  : am_Rn L xs d 123 118 ls st σ Q = am_Rn L xs d 123 4 ls st σ Q := am_r_goto d123_118 (by decide)
theorem r123_121  : am_Rn L xs d 123 121 ls st σ Q = am_Rn L xs d 123 122 ls (.int (-1) :: st) σ Q := am_r_iconst d123_121 (by decide)
theorem r123_122 {v : Int32} : am_Rn L xs d 123 122 ls [.int v] σ Q = Q (some (.int v)) σ := am_r_ireturn d123_122 rfl
end
