/-! Rows of the program's instructions, written by program (wip/gen/gen_rows.py) -/
section
variable {L : Nat} {xs : Nat → Int32} {d : Nat} {ls st : List Value} {σ : am_S} {Q : Option Value → am_S → Prop}
theorem d49_0 : decode (pg_code 49) 0 = .ok (.aload_n 0, 1) := by decide +kernel
theorem d49_1 : decode (pg_code 49) 1 = .ok (.getfield 15, 3) := by decide +kernel
theorem d49_4 : decode (pg_code 49) 4 = .ok (.iload_n 1, 1) := by decide +kernel
theorem d49_5 : decode (pg_code 49) 5 = .ok (.iaload, 1) := by decide +kernel
theorem d49_6 : decode (pg_code 49) 6 = .ok (.ireturn, 1) := by decide +kernel
theorem e49 {b1 b2 : Value} : am_Call L xs d 49 [b1, b2] σ Q = am_Rn L xs d 49 0 [b1, b2] [] σ Q := rfl
theorem r49_0  : am_Rn L xs d 49 0 ls st σ Q = am_la ls 0 (fun x => am_Rn L xs d 49 1 ls (x :: st) σ Q) := am_r_aload_n d49_0
theorem r49_1 {p : Nat} : am_Rn L xs d 49 1 ls (.ref p :: st) σ Q = am_fd σ p 3 1 (fun v => am_Rn L xs d 49 4 ls (v :: st) σ Q) := am_r_getfield d49_1 rfl
theorem r49_4  : am_Rn L xs d 49 4 ls st σ Q = am_li ls 1 (fun x => am_Rn L xs d 49 5 ls (.int x :: st) σ Q) := am_r_iload_n d49_4
theorem r49_5 {p : Nat} {i : Int32} : am_Rn L xs d 49 5 ls (.int i :: .ref p :: st) σ Q = am_ai 0 σ p i (fun x => am_Rn L xs d 49 6 ls (.int x :: st) σ Q) := am_r_iaload d49_5
theorem r49_6 {v : Int32} : am_Rn L xs d 49 6 ls [.int v] σ Q = Q (some (.int v)) σ := am_r_ireturn d49_6 rfl
end
