/-! Rows of the program's instructions, written by program (wip/gen/gen_rows.py) -/
section
variable {L : Nat} {xs : Nat → Int32} {d : Nat} {ls st : List Value} {σ : am_S} {Q : Option Value → am_S → Prop}
theorem d129_0 : decode (pg_code 129) 0 = .ok (.aload_n 0, 1) := by decide +kernel
theorem d129_1 : decode (pg_code 129) 1 = .ok (.getfield 218, 3) := by decide +kernel
theorem d129_4 : decode (pg_code 129) 4 = .ok (.ifCond .eq 33, 3) := by decide +kernel
theorem d129_37 : decode (pg_code 129) 37 = .ok (.bipush (-2), 2) := by decide +kernel
theorem d129_39 : decode (pg_code 129) 39 = .ok (.ireturn, 1) := by decide +kernel
theorem e129 {b1 b2 b3 : Value} : am_Call L xs d 129 [b1, b2, b3] σ Q = am_Rn L xs d 129 0 [b1, b2, b3, .retAddr 0, .retAddr 0] [] σ Q := rfl
theorem r129_0  : am_Rn L xs d 129 0 ls st σ Q = am_la ls 0 (fun x => am_Rn L xs d 129 1 ls (x :: st) σ Q) := am_r_aload_n d129_0
theorem r129_1 {p : Nat} : am_Rn L xs d 129 1 ls (.ref p :: st) σ Q = am_fd σ p 6 28 (fun v => am_Rn L xs d 129 4 ls (v :: st) σ Q) := am_r_getfield d129_1 rfl
theorem r129_4 {a : Int32} : am_Rn L xs d 129 4 ls (.int a :: st) σ Q = if a = 0 then am_Rn L xs d 129 37 ls st σ Q else am_Rn L xs d 129 7 ls st σ Q := (am_r_if (t := 37) d129_4 (by decide)).trans (am_ite _ _ trivial (by simp only [am_cond, decide_eq_true_eq]))
theorem r129_37  : am_Rn L xs d 129 37 ls st σ Q = am_Rn L xs d 129 39 ls (.int (-2) :: st) σ Q := am_r_bipush d129_37 (by decide)
theorem r129_39 {v : Int32} : am_Rn L xs d 129 39 ls [.int v] σ Q = Q (some (.int v)) σ := am_r_ireturn d129_39 rfl
theorem d130_0 : decode (pg_code 130) 0 = .ok (.aload_n 0, 1) := by decide +kernel
theorem d130_1 : decode (pg_code 130) 1 = .ok (.getfield 218, 3) := by decide +kernel
theorem d130_4 : decode (pg_code 130) 4 = .ok (.ifCond .eq 37, 3) := by decide +kernel
theorem d130_41 : decode (pg_code 130) 41 = .ok (.iconst 0, 1) := by decide +kernel
theorem d130_42 : decode (pg_code 130) 42 = .ok (.ireturn, 1) := by decide +kernel
theorem e130 {b1 b2 : Value} : am_Call L xs d 130 [b1, b2] σ Q = am_Rn L xs d 130 0 [b1, b2, .retAddr 0, .retAddr 0, .retAddr 0, .retAddr 0, .retAddr 0] [] σ Q := rfl
theorem r130_0  : am_Rn L xs d 130 0 ls st σ Q = am_la ls 0 (fun x => am_Rn L xs d 130 1 ls (x :: st) σ Q) := am_r_aload_n d130_0
theorem r130_1 {p : Nat} : am_Rn L xs d 130 1 ls (.ref p :: st) σ Q = am_fd σ p 6 28 (fun v => am_Rn L xs d 130 4 ls (v :: st) σ Q) := am_r_getfield d130_1 rfl
theorem r130_4 {a : Int32} : am_Rn L xs d 130 4 ls (.int a :: st) σ Q = if a = 0 then am_Rn L xs d 130 41 ls st σ Q else am_Rn L xs d 130 7 ls st σ Q := (am_r_if (t := 41) d130_4 (by decide)).trans (am_ite _ _ trivial (by simp only [am_cond, decide_eq_true_eq]))
theorem r130_41  : am_Rn L xs d 130 41 ls st σ Q = am_Rn L xs d 130 42 ls (.int 0 :: st) σ Q := am_r_iconst d130_41 (by decide)
theorem r130_42 {v : Int32} (hv : v = 0 ∨ v = 1) : am_Rn L xs d 130 42 ls [.int v] σ Q = Q (some (.int v)) σ := am_r_zreturn d130_42 rfl hv
end
