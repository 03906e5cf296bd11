/-! Reads and writes at the places of the shape, written by program (wip/gen/gen_init.py) -/
section
variable {s : St}
theorem mk_fd {p ci k : Nat} {fs : List (Nat ⊕ Nat)} {f : Value → Prop} (x : Nat ⊕ Nat) (hs : in_sk[p]? = some (.inr (.inr (ci, fs)))) (hk : fs[k]? = some x) : am_fd (mk s) p ci k f = f (am_fv s.2.1 s.2.2 p k x) := am_k_fd hs hk
theorem g0_0 {f : Value → Prop} : am_fd (mk s) 0 0 0 f = f (.ref 1) := mk_fd (.inl 1) rfl rfl
theorem g0_1 {f : Value → Prop} : am_fd (mk s) 0 0 1 f = f (.ref 17) := mk_fd (.inl 17) rfl rfl
theorem a17 {i : Int32} {f : Int32 → Prop} : am_ai 0 (mk s) 17 i f = (am_in i 12 = true ∧ f (s.1 17 i.toNatClampNeg)) := am_k_ai (sk := in_sk) rfl
theorem w17 {i x : Int32} {f : am_S → Prop} : am_wi 0 (mk s) 17 i x f = (am_in i 12 = true ∧ f (mk (va_up s.1 17 (upd (s.1 17) i.toNatClampNeg x), s.2))) := am_k_wi (sk := in_sk) rfl
theorem g0_2 {f : Value → Prop} : am_fd (mk s) 0 0 2 f = f (.ref 18) := mk_fd (.inl 18) rfl rfl
theorem g0_3 {f : Value → Prop} : am_fd (mk s) 0 0 3 f = f (.ref 23) := mk_fd (.inl 23) rfl rfl
theorem g0_4 {f : Value → Prop} : am_fd (mk s) 0 0 4 f = f (.ref 53) := mk_fd (.inl 53) rfl rfl
theorem g0_5 {f : Value → Prop} : am_fd (mk s) 0 0 5 f = f (.ref 54) := mk_fd (.inl 54) rfl rfl
theorem g0_6 {f : Value → Prop} : am_fd (mk s) 0 0 6 f = f (.int (s.2.1 0 6)) := mk_fd (.inr 0) rfl rfl
theorem v0_6 {y o : Nat} {x : Int32} {f : am_S → Prop} (hx : x = 0 ∨ x = 1) : am_wf y o (mk s) 0 0 6 (.int x) f = f (mk (s.1, am_u2 s.2.1 0 6 x, s.2.2)) := am_k_wF (sk := in_sk) rfl rfl (by rcases hx with rfl | rfl <;> rfl) (fun h => by cases h)
theorem g0_7 {f : Value → Prop} : am_fd (mk s) 0 0 7 f = f (.int (s.2.1 0 7)) := mk_fd (.inr 0) rfl rfl
theorem v0_7 {y o : Nat} {x : Int32} {f : am_S → Prop} (hx : x = 0 ∨ x = 1) : am_wf y o (mk s) 0 0 7 (.int x) f = f (mk (s.1, am_u2 s.2.1 0 7 x, s.2.2)) := am_k_wF (sk := in_sk) rfl rfl (by rcases hx with rfl | rfl <;> rfl) (fun h => by cases h)
theorem g121_0 {f : Value → Prop} : am_fd (mk s) 121 6 0 f = f (.ref 122) := mk_fd (.inl 122) rfl rfl
theorem a122 {i : Int32} {f : Int32 → Prop} : am_ai 0 (mk s) 122 i f = (am_in i 4 = true ∧ f (s.1 122 i.toNatClampNeg)) := am_k_ai (sk := in_sk) rfl
theorem w122 {i x : Int32} {f : am_S → Prop} : am_wi 0 (mk s) 122 i x f = (am_in i 4 = true ∧ f (mk (va_up s.1 122 (upd (s.1 122) i.toNatClampNeg x), s.2))) := am_k_wi (sk := in_sk) rfl
theorem g121_1 {f : Value → Prop} : am_fd (mk s) 121 6 1 f = f (.ref 123) := mk_fd (.inl 123) rfl rfl
theorem a123 {i : Int32} {f : Int32 → Prop} : am_ai 0 (mk s) 123 i f = (am_in i 48 = true ∧ f (s.1 123 i.toNatClampNeg)) := am_k_ai (sk := in_sk) rfl
theorem w123 {i x : Int32} {f : am_S → Prop} : am_wi 0 (mk s) 123 i x f = (am_in i 48 = true ∧ f (mk (va_up s.1 123 (upd (s.1 123) i.toNatClampNeg x), s.2))) := am_k_wi (sk := in_sk) rfl
theorem g121_2 {f : Value → Prop} : am_fd (mk s) 121 6 2 f = f (.ref 124) := mk_fd (.inl 124) rfl rfl
theorem a124 {i : Int32} {f : Int32 → Prop} : am_ai 0 (mk s) 124 i f = (am_in i 48 = true ∧ f (s.1 124 i.toNatClampNeg)) := am_k_ai (sk := in_sk) rfl
theorem w124 {i x : Int32} {f : am_S → Prop} : am_wi 0 (mk s) 124 i x f = (am_in i 48 = true ∧ f (mk (va_up s.1 124 (upd (s.1 124) i.toNatClampNeg x), s.2))) := am_k_wi (sk := in_sk) rfl
theorem g121_3 {f : Value → Prop} : am_fd (mk s) 121 6 3 f = f (.ref 125) := mk_fd (.inl 125) rfl rfl
theorem a125 {i : Int32} {f : Int32 → Prop} : am_ai 0 (mk s) 125 i f = (am_in i 48 = true ∧ f (s.1 125 i.toNatClampNeg)) := am_k_ai (sk := in_sk) rfl
theorem w125 {i x : Int32} {f : am_S → Prop} : am_wi 0 (mk s) 125 i x f = (am_in i 48 = true ∧ f (mk (va_up s.1 125 (upd (s.1 125) i.toNatClampNeg x), s.2))) := am_k_wi (sk := in_sk) rfl
theorem g121_4 {f : Value → Prop} : am_fd (mk s) 121 6 4 f = f (.ref 126) := mk_fd (.inl 126) rfl rfl
theorem a126 {i : Int32} {f : Int32 → Prop} : am_ai 0 (mk s) 126 i f = (am_in i 12 = true ∧ f (s.1 126 i.toNatClampNeg)) := am_k_ai (sk := in_sk) rfl
theorem w126 {i x : Int32} {f : am_S → Prop} : am_wi 0 (mk s) 126 i x f = (am_in i 12 = true ∧ f (mk (va_up s.1 126 (upd (s.1 126) i.toNatClampNeg x), s.2))) := am_k_wi (sk := in_sk) rfl
theorem g121_5 {f : Value → Prop} : am_fd (mk s) 121 6 5 f = f (.ref 127) := mk_fd (.inl 127) rfl rfl
theorem a127 {i : Int32} {f : Int32 → Prop} : am_ai 0 (mk s) 127 i f = (am_in i 12 = true ∧ f (s.1 127 i.toNatClampNeg)) := am_k_ai (sk := in_sk) rfl
theorem w127 {i x : Int32} {f : am_S → Prop} : am_wi 0 (mk s) 127 i x f = (am_in i 12 = true ∧ f (mk (va_up s.1 127 (upd (s.1 127) i.toNatClampNeg x), s.2))) := am_k_wi (sk := in_sk) rfl
theorem g121_6 {f : Value → Prop} : am_fd (mk s) 121 6 6 f = f (.ref 128) := mk_fd (.inl 128) rfl rfl
theorem a128 {i : Int32} {f : Int32 → Prop} : am_ai 1 (mk s) 128 i f = (am_in i 144 = true ∧ f (s.1 128 i.toNatClampNeg)) := am_k_ai (sk := in_sk) rfl
theorem w128 {i x : Int32} {f : am_S → Prop} : am_wi 1 (mk s) 128 i x f = (am_in i 144 = true ∧ f (mk (va_up s.1 128 (upd (s.1 128) i.toNatClampNeg x), s.2))) := am_k_wi (sk := in_sk) rfl
theorem g121_7 {f : Value → Prop} : am_fd (mk s) 121 6 7 f = f (.ref 129) := mk_fd (.inl 129) rfl rfl
theorem a129 {i : Int32} {f : Int32 → Prop} : am_ai 1 (mk s) 129 i f = (am_in i 144 = true ∧ f (s.1 129 i.toNatClampNeg)) := am_k_ai (sk := in_sk) rfl
theorem w129 {i x : Int32} {f : am_S → Prop} : am_wi 1 (mk s) 129 i x f = (am_in i 144 = true ∧ f (mk (va_up s.1 129 (upd (s.1 129) i.toNatClampNeg x), s.2))) := am_k_wi (sk := in_sk) rfl
theorem g121_8 {f : Value → Prop} : am_fd (mk s) 121 6 8 f = f (.ref 130) := mk_fd (.inl 130) rfl rfl
theorem a130 {i : Int32} {f : Int32 → Prop} : am_ai 1 (mk s) 130 i f = (am_in i 144 = true ∧ f (s.1 130 i.toNatClampNeg)) := am_k_ai (sk := in_sk) rfl
theorem w130 {i x : Int32} {f : am_S → Prop} : am_wi 1 (mk s) 130 i x f = (am_in i 144 = true ∧ f (mk (va_up s.1 130 (upd (s.1 130) i.toNatClampNeg x), s.2))) := am_k_wi (sk := in_sk) rfl
theorem g121_9 {f : Value → Prop} : am_fd (mk s) 121 6 9 f = f (.ref 131) := mk_fd (.inl 131) rfl rfl
theorem a131 {i : Int32} {f : Int32 → Prop} : am_ai 0 (mk s) 131 i f = (am_in i 12 = true ∧ f (s.1 131 i.toNatClampNeg)) := am_k_ai (sk := in_sk) rfl
theorem w131 {i x : Int32} {f : am_S → Prop} : am_wi 0 (mk s) 131 i x f = (am_in i 12 = true ∧ f (mk (va_up s.1 131 (upd (s.1 131) i.toNatClampNeg x), s.2))) := am_k_wi (sk := in_sk) rfl
theorem g121_10 {f : Value → Prop} : am_fd (mk s) 121 6 10 f = f (.ref 132) := mk_fd (.inl 132) rfl rfl
theorem a132 {i : Int32} {f : Int32 → Prop} : am_ai 0 (mk s) 132 i f = (am_in i 12 = true ∧ f (s.1 132 i.toNatClampNeg)) := am_k_ai (sk := in_sk) rfl
theorem w132 {i x : Int32} {f : am_S → Prop} : am_wi 0 (mk s) 132 i x f = (am_in i 12 = true ∧ f (mk (va_up s.1 132 (upd (s.1 132) i.toNatClampNeg x), s.2))) := am_k_wi (sk := in_sk) rfl
theorem g121_11 {f : Value → Prop} : am_fd (mk s) 121 6 11 f = f (.ref 133) := mk_fd (.inl 133) rfl rfl
theorem a133 {i : Int32} {f : Int32 → Prop} : am_ai 0 (mk s) 133 i f = (am_in i 12 = true ∧ f (s.1 133 i.toNatClampNeg)) := am_k_ai (sk := in_sk) rfl
theorem w133 {i x : Int32} {f : am_S → Prop} : am_wi 0 (mk s) 133 i x f = (am_in i 12 = true ∧ f (mk (va_up s.1 133 (upd (s.1 133) i.toNatClampNeg x), s.2))) := am_k_wi (sk := in_sk) rfl
theorem g121_12 {f : Value → Prop} : am_fd (mk s) 121 6 12 f = f (.ref 134) := mk_fd (.inl 134) rfl rfl
theorem a134 {i : Int32} {f : Int32 → Prop} : am_ai 1 (mk s) 134 i f = (am_in i 12 = true ∧ f (s.1 134 i.toNatClampNeg)) := am_k_ai (sk := in_sk) rfl
theorem w134 {i x : Int32} {f : am_S → Prop} : am_wi 1 (mk s) 134 i x f = (am_in i 12 = true ∧ f (mk (va_up s.1 134 (upd (s.1 134) i.toNatClampNeg x), s.2))) := am_k_wi (sk := in_sk) rfl
theorem g121_13 {f : Value → Prop} : am_fd (mk s) 121 6 13 f = f (.ref 135) := mk_fd (.inl 135) rfl rfl
theorem a135 {i : Int32} {f : Int32 → Prop} : am_ai 0 (mk s) 135 i f = (am_in i 12 = true ∧ f (s.1 135 i.toNatClampNeg)) := am_k_ai (sk := in_sk) rfl
theorem w135 {i x : Int32} {f : am_S → Prop} : am_wi 0 (mk s) 135 i x f = (am_in i 12 = true ∧ f (mk (va_up s.1 135 (upd (s.1 135) i.toNatClampNeg x), s.2))) := am_k_wi (sk := in_sk) rfl
theorem g121_14 {f : Value → Prop} : am_fd (mk s) 121 6 14 f = f (.ref 136) := mk_fd (.inl 136) rfl rfl
theorem a136 {i : Int32} {f : Int32 → Prop} : am_ai 0 (mk s) 136 i f = (am_in i 12 = true ∧ f (s.1 136 i.toNatClampNeg)) := am_k_ai (sk := in_sk) rfl
theorem w136 {i x : Int32} {f : am_S → Prop} : am_wi 0 (mk s) 136 i x f = (am_in i 12 = true ∧ f (mk (va_up s.1 136 (upd (s.1 136) i.toNatClampNeg x), s.2))) := am_k_wi (sk := in_sk) rfl
theorem g121_15 {f : Value → Prop} : am_fd (mk s) 121 6 15 f = f (.ref 137) := mk_fd (.inl 137) rfl rfl
theorem a137 {i : Int32} {f : Int32 → Prop} : am_ai 0 (mk s) 137 i f = (am_in i 12 = true ∧ f (s.1 137 i.toNatClampNeg)) := am_k_ai (sk := in_sk) rfl
theorem w137 {i x : Int32} {f : am_S → Prop} : am_wi 0 (mk s) 137 i x f = (am_in i 12 = true ∧ f (mk (va_up s.1 137 (upd (s.1 137) i.toNatClampNeg x), s.2))) := am_k_wi (sk := in_sk) rfl
theorem g121_16 {f : Value → Prop} : am_fd (mk s) 121 6 16 f = f (.int (s.2.1 121 16)) := mk_fd (.inr 0) rfl rfl
theorem v121_16 {y o : Nat} {x : Int32} {f : am_S → Prop} : am_wf y o (mk s) 121 6 16 (.int x) f = f (mk (s.1, am_u2 s.2.1 121 16 x, s.2.2)) := am_k_wF (sk := in_sk) rfl rfl rfl (fun h => by cases h)
theorem g121_17 {f : Value → Prop} : am_fd (mk s) 121 6 17 f = f (.int (s.2.1 121 17)) := mk_fd (.inr 0) rfl rfl
theorem v121_17 {y o : Nat} {x : Int32} {f : am_S → Prop} : am_wf y o (mk s) 121 6 17 (.int x) f = f (mk (s.1, am_u2 s.2.1 121 17 x, s.2.2)) := am_k_wF (sk := in_sk) rfl rfl rfl (fun h => by cases h)
theorem g121_18 {f : Value → Prop} : am_fd (mk s) 121 6 18 f = f (.ref 138) := mk_fd (.inl 138) rfl rfl
theorem a138 {i : Int32} {f : Int32 → Prop} : am_ai 0 (mk s) 138 i f = (am_in i 4 = true ∧ f (s.1 138 i.toNatClampNeg)) := am_k_ai (sk := in_sk) rfl
theorem w138 {i x : Int32} {f : am_S → Prop} : am_wi 0 (mk s) 138 i x f = (am_in i 4 = true ∧ f (mk (va_up s.1 138 (upd (s.1 138) i.toNatClampNeg x), s.2))) := am_k_wi (sk := in_sk) rfl
theorem g121_19 {f : Value → Prop} : am_fd (mk s) 121 6 19 f = f (.ref 139) := mk_fd (.inl 139) rfl rfl
theorem a139 {i : Int32} {f : Int32 → Prop} : am_ai 0 (mk s) 139 i f = (am_in i 160 = true ∧ f (s.1 139 i.toNatClampNeg)) := am_k_ai (sk := in_sk) rfl
theorem w139 {i x : Int32} {f : am_S → Prop} : am_wi 0 (mk s) 139 i x f = (am_in i 160 = true ∧ f (mk (va_up s.1 139 (upd (s.1 139) i.toNatClampNeg x), s.2))) := am_k_wi (sk := in_sk) rfl
theorem g121_20 {f : Value → Prop} : am_fd (mk s) 121 6 20 f = f (.ref 140) := mk_fd (.inl 140) rfl rfl
theorem a140 {i : Int32} {f : Int32 → Prop} : am_ai 0 (mk s) 140 i f = (am_in i 160 = true ∧ f (s.1 140 i.toNatClampNeg)) := am_k_ai (sk := in_sk) rfl
theorem w140 {i x : Int32} {f : am_S → Prop} : am_wi 0 (mk s) 140 i x f = (am_in i 160 = true ∧ f (mk (va_up s.1 140 (upd (s.1 140) i.toNatClampNeg x), s.2))) := am_k_wi (sk := in_sk) rfl
theorem g121_21 {f : Value → Prop} : am_fd (mk s) 121 6 21 f = f (.ref 141) := mk_fd (.inl 141) rfl rfl
theorem a141 {i : Int32} {f : Int32 → Prop} : am_ai 0 (mk s) 141 i f = (am_in i 160 = true ∧ f (s.1 141 i.toNatClampNeg)) := am_k_ai (sk := in_sk) rfl
theorem w141 {i x : Int32} {f : am_S → Prop} : am_wi 0 (mk s) 141 i x f = (am_in i 160 = true ∧ f (mk (va_up s.1 141 (upd (s.1 141) i.toNatClampNeg x), s.2))) := am_k_wi (sk := in_sk) rfl
theorem g121_22 {f : Value → Prop} : am_fd (mk s) 121 6 22 f = f (.ref 142) := mk_fd (.inl 142) rfl rfl
theorem a142 {i : Int32} {f : Int32 → Prop} : am_ai 0 (mk s) 142 i f = (am_in i 160 = true ∧ f (s.1 142 i.toNatClampNeg)) := am_k_ai (sk := in_sk) rfl
theorem w142 {i x : Int32} {f : am_S → Prop} : am_wi 0 (mk s) 142 i x f = (am_in i 160 = true ∧ f (mk (va_up s.1 142 (upd (s.1 142) i.toNatClampNeg x), s.2))) := am_k_wi (sk := in_sk) rfl
theorem g121_23 {f : Value → Prop} : am_fd (mk s) 121 6 23 f = f (.ref 143) := mk_fd (.inl 143) rfl rfl
theorem a143 {i : Int32} {f : Int32 → Prop} : am_ai 0 (mk s) 143 i f = (am_in i 160 = true ∧ f (s.1 143 i.toNatClampNeg)) := am_k_ai (sk := in_sk) rfl
theorem w143 {i x : Int32} {f : am_S → Prop} : am_wi 0 (mk s) 143 i x f = (am_in i 160 = true ∧ f (mk (va_up s.1 143 (upd (s.1 143) i.toNatClampNeg x), s.2))) := am_k_wi (sk := in_sk) rfl
theorem g121_24 {f : Value → Prop} : am_fd (mk s) 121 6 24 f = f (.ref 144) := mk_fd (.inl 144) rfl rfl
theorem a144 {i : Int32} {f : Int32 → Prop} : am_ai 0 (mk s) 144 i f = (am_in i 160 = true ∧ f (s.1 144 i.toNatClampNeg)) := am_k_ai (sk := in_sk) rfl
theorem w144 {i x : Int32} {f : am_S → Prop} : am_wi 0 (mk s) 144 i x f = (am_in i 160 = true ∧ f (mk (va_up s.1 144 (upd (s.1 144) i.toNatClampNeg x), s.2))) := am_k_wi (sk := in_sk) rfl
theorem g121_25 {f : Value → Prop} : am_fd (mk s) 121 6 25 f = f (.ref 145) := mk_fd (.inl 145) rfl rfl
theorem a145 {i : Int32} {f : Int32 → Prop} : am_ai 0 (mk s) 145 i f = (am_in i 4 = true ∧ f (s.1 145 i.toNatClampNeg)) := am_k_ai (sk := in_sk) rfl
theorem w145 {i x : Int32} {f : am_S → Prop} : am_wi 0 (mk s) 145 i x f = (am_in i 4 = true ∧ f (mk (va_up s.1 145 (upd (s.1 145) i.toNatClampNeg x), s.2))) := am_k_wi (sk := in_sk) rfl
theorem g121_26 {f : Value → Prop} : am_fd (mk s) 121 6 26 f = f (.int (s.2.1 121 26)) := mk_fd (.inr 0) rfl rfl
theorem v121_26 {y o : Nat} {x : Int32} {f : am_S → Prop} (hx : x = 0 ∨ x = 1) : am_wf y o (mk s) 121 6 26 (.int x) f = f (mk (s.1, am_u2 s.2.1 121 26 x, s.2.2)) := am_k_wF (sk := in_sk) rfl rfl (by rcases hx with rfl | rfl <;> rfl) (fun h => by cases h)
theorem g121_27 {f : Value → Prop} : am_fd (mk s) 121 6 27 f = f (.ref 146) := mk_fd (.inl 146) rfl rfl
theorem a146 {i : Int32} {f : Int32 → Prop} : am_ai 0 (mk s) 146 i f = (am_in i 12 = true ∧ f (s.1 146 i.toNatClampNeg)) := am_k_ai (sk := in_sk) rfl
theorem w146 {i x : Int32} {f : am_S → Prop} : am_wi 0 (mk s) 146 i x f = (am_in i 12 = true ∧ f (mk (va_up s.1 146 (upd (s.1 146) i.toNatClampNeg x), s.2))) := am_k_wi (sk := in_sk) rfl
theorem g121_28 {f : Value → Prop} : am_fd (mk s) 121 6 28 f = f (.int (s.2.1 121 28)) := mk_fd (.inr 0) rfl rfl
theorem v121_28 {y o : Nat} {x : Int32} {f : am_S → Prop} (hx : x = 0 ∨ x = 1) : am_wf y o (mk s) 121 6 28 (.int x) f = f (mk (s.1, am_u2 s.2.1 121 28 x, s.2.2)) := am_k_wF (sk := in_sk) rfl rfl (by rcases hx with rfl | rfl <;> rfl) (fun h => by cases h)
theorem g121_29 {f : Value → Prop} : am_fd (mk s) 121 6 29 f = f (.int (s.2.1 121 29)) := mk_fd (.inr 0) rfl rfl
theorem v121_29 {y o : Nat} {x : Int32} {f : am_S → Prop} : am_wf y o (mk s) 121 6 29 (.int x) f = f (mk (s.1, am_u2 s.2.1 121 29 x, s.2.2)) := am_k_wF (sk := in_sk) rfl rfl rfl (fun h => by cases h)
theorem g121_30 {f : Value → Prop} : am_fd (mk s) 121 6 30 f = f (.ref 147) := mk_fd (.inl 147) rfl rfl
theorem a147 {i : Int32} {f : Int32 → Prop} : am_ai 1 (mk s) 147 i f = (am_in i 36 = true ∧ f (s.1 147 i.toNatClampNeg)) := am_k_ai (sk := in_sk) rfl
theorem w147 {i x : Int32} {f : am_S → Prop} : am_wi 1 (mk s) 147 i x f = (am_in i 36 = true ∧ f (mk (va_up s.1 147 (upd (s.1 147) i.toNatClampNeg x), s.2))) := am_k_wi (sk := in_sk) rfl
theorem g121_31 {f : Value → Prop} : am_fd (mk s) 121 6 31 f = f (.ref 148) := mk_fd (.inl 148) rfl rfl
theorem a148 {i : Int32} {f : Int32 → Prop} : am_ai 0 (mk s) 148 i f = (am_in i 36 = true ∧ f (s.1 148 i.toNatClampNeg)) := am_k_ai (sk := in_sk) rfl
theorem w148 {i x : Int32} {f : am_S → Prop} : am_wi 0 (mk s) 148 i x f = (am_in i 36 = true ∧ f (mk (va_up s.1 148 (upd (s.1 148) i.toNatClampNeg x), s.2))) := am_k_wi (sk := in_sk) rfl
theorem g121_32 {f : Value → Prop} : am_fd (mk s) 121 6 32 f = f (.ref 149) := mk_fd (.inl 149) rfl rfl
theorem a149 {i : Int32} {f : Int32 → Prop} : am_ai 0 (mk s) 149 i f = (am_in i 36 = true ∧ f (s.1 149 i.toNatClampNeg)) := am_k_ai (sk := in_sk) rfl
theorem w149 {i x : Int32} {f : am_S → Prop} : am_wi 0 (mk s) 149 i x f = (am_in i 36 = true ∧ f (mk (va_up s.1 149 (upd (s.1 149) i.toNatClampNeg x), s.2))) := am_k_wi (sk := in_sk) rfl
theorem g121_33 {f : Value → Prop} : am_fd (mk s) 121 6 33 f = f (.ref 150) := mk_fd (.inl 150) rfl rfl
theorem a150 {i : Int32} {f : Int32 → Prop} : am_ai 0 (mk s) 150 i f = (am_in i 36 = true ∧ f (s.1 150 i.toNatClampNeg)) := am_k_ai (sk := in_sk) rfl
theorem w150 {i x : Int32} {f : am_S → Prop} : am_wi 0 (mk s) 150 i x f = (am_in i 36 = true ∧ f (mk (va_up s.1 150 (upd (s.1 150) i.toNatClampNeg x), s.2))) := am_k_wi (sk := in_sk) rfl
theorem g121_34 {f : Value → Prop} : am_fd (mk s) 121 6 34 f = f (.ref 151) := mk_fd (.inl 151) rfl rfl
theorem a151 {i : Int32} {f : Int32 → Prop} : am_ai 0 (mk s) 151 i f = (am_in i 36 = true ∧ f (s.1 151 i.toNatClampNeg)) := am_k_ai (sk := in_sk) rfl
theorem w151 {i x : Int32} {f : am_S → Prop} : am_wi 0 (mk s) 151 i x f = (am_in i 36 = true ∧ f (mk (va_up s.1 151 (upd (s.1 151) i.toNatClampNeg x), s.2))) := am_k_wi (sk := in_sk) rfl
theorem g121_35 {f : Value → Prop} : am_fd (mk s) 121 6 35 f = f (.int (s.2.1 121 35)) := mk_fd (.inr 0) rfl rfl
theorem v121_35 {y o : Nat} {x : Int32} {f : am_S → Prop} : am_wf y o (mk s) 121 6 35 (.int x) f = f (mk (s.1, am_u2 s.2.1 121 35 x, s.2.2)) := am_k_wF (sk := in_sk) rfl rfl rfl (fun h => by cases h)
theorem g121_36 {f : Value → Prop} : am_fd (mk s) 121 6 36 f = f (.ref 152) := mk_fd (.inl 152) rfl rfl
theorem a152 {i : Int32} {f : Int32 → Prop} : am_ai 0 (mk s) 152 i f = (am_in i 36 = true ∧ f (s.1 152 i.toNatClampNeg)) := am_k_ai (sk := in_sk) rfl
theorem w152 {i x : Int32} {f : am_S → Prop} : am_wi 0 (mk s) 152 i x f = (am_in i 36 = true ∧ f (mk (va_up s.1 152 (upd (s.1 152) i.toNatClampNeg x), s.2))) := am_k_wi (sk := in_sk) rfl
theorem g121_37 {f : Value → Prop} : am_fd (mk s) 121 6 37 f = f (.ref 153) := mk_fd (.inl 153) rfl rfl
theorem a153 {i : Int32} {f : Int32 → Prop} : am_ai 0 (mk s) 153 i f = (am_in i 36 = true ∧ f (s.1 153 i.toNatClampNeg)) := am_k_ai (sk := in_sk) rfl
theorem w153 {i x : Int32} {f : am_S → Prop} : am_wi 0 (mk s) 153 i x f = (am_in i 36 = true ∧ f (mk (va_up s.1 153 (upd (s.1 153) i.toNatClampNeg x), s.2))) := am_k_wi (sk := in_sk) rfl
theorem g121_38 {f : Value → Prop} : am_fd (mk s) 121 6 38 f = f (.ref 154) := mk_fd (.inl 154) rfl rfl
theorem a154 {i : Int32} {f : Int32 → Prop} : am_ai 1 (mk s) 154 i f = (am_in i 12 = true ∧ f (s.1 154 i.toNatClampNeg)) := am_k_ai (sk := in_sk) rfl
theorem w154 {i x : Int32} {f : am_S → Prop} : am_wi 1 (mk s) 154 i x f = (am_in i 12 = true ∧ f (mk (va_up s.1 154 (upd (s.1 154) i.toNatClampNeg x), s.2))) := am_k_wi (sk := in_sk) rfl
theorem g121_39 {f : Value → Prop} : am_fd (mk s) 121 6 39 f = f (.ref 155) := mk_fd (.inl 155) rfl rfl
theorem a155 {i : Int32} {f : Int32 → Prop} : am_ai 0 (mk s) 155 i f = (am_in i 12 = true ∧ f (s.1 155 i.toNatClampNeg)) := am_k_ai (sk := in_sk) rfl
theorem w155 {i x : Int32} {f : am_S → Prop} : am_wi 0 (mk s) 155 i x f = (am_in i 12 = true ∧ f (mk (va_up s.1 155 (upd (s.1 155) i.toNatClampNeg x), s.2))) := am_k_wi (sk := in_sk) rfl
/-- a forest of n places at p -/
def isF (p n : Nat) : Prop := in_sk[p]? = some (.inr (.inr (1, [.inl (p + 1), .inl (p + 2), .inl (p + 3), .inl (p + 4), .inr 0]))) ∧ in_sk[p + 1]? = some (.inl (0, n)) ∧ in_sk[p + 2]? = some (.inl (0, n)) ∧ in_sk[p + 3]? = some (.inl (0, n)) ∧ in_sk[p + 4]? = some (.inl (0, n))
theorem isF_t {j : Nat} (h : j < 3) : isF (2 + 5 * j) 12 := by
  match j, h with
  | 0, _ => exact ⟨rfl, rfl, rfl, rfl, rfl⟩
  | 1, _ => exact ⟨rfl, rfl, rfl, rfl, rfl⟩
  | 2, _ => exact ⟨rfl, rfl, rfl, rfl, rfl⟩
theorem isF_s : isF 18 12 := ⟨rfl, rfl, rfl, rfl, rfl⟩
theorem isF_r : isF 54 36 := ⟨rfl, rfl, rfl, rfl, rfl⟩
variable {p n : Nat}
theorem f_par (h : isF p n) {f : Value → Prop} : am_fd (mk s) p 1 0 f = f (.ref (p + 1)) := mk_fd (.inl (p + 1)) h.1 rfl
theorem fa_par (h : isF p n) {i : Int32} {f : Int32 → Prop} : am_ai 0 (mk s) (p + 1) i f = (am_in i n = true ∧ f (s.1 (p + 1) i.toNatClampNeg)) := am_k_ai (sk := in_sk) h.2.1
theorem fw_par (h : isF p n) {i x : Int32} {f : am_S → Prop} : am_wi 0 (mk s) (p + 1) i x f = (am_in i n = true ∧ f (mk (va_up s.1 (p + 1) (upd (s.1 (p + 1)) i.toNatClampNeg x), s.2))) := am_k_wi (sk := in_sk) h.2.1
theorem fl_par (h : isF p n) {f : Int32 → Prop} : am_ln (mk s) (p + 1) f = f (Int32.ofNat n) := am_k_lnA (sk := in_sk) h.2.1 (by decide)
theorem f_pla (h : isF p n) {f : Value → Prop} : am_fd (mk s) p 1 1 f = f (.ref (p + 2)) := mk_fd (.inl (p + 2)) h.1 rfl
theorem fa_pla (h : isF p n) {i : Int32} {f : Int32 → Prop} : am_ai 0 (mk s) (p + 2) i f = (am_in i n = true ∧ f (s.1 (p + 2) i.toNatClampNeg)) := am_k_ai (sk := in_sk) h.2.2.1
theorem fw_pla (h : isF p n) {i x : Int32} {f : am_S → Prop} : am_wi 0 (mk s) (p + 2) i x f = (am_in i n = true ∧ f (mk (va_up s.1 (p + 2) (upd (s.1 (p + 2)) i.toNatClampNeg x), s.2))) := am_k_wi (sk := in_sk) h.2.2.1
theorem fl_pla (h : isF p n) {f : Int32 → Prop} : am_ln (mk s) (p + 2) f = f (Int32.ofNat n) := am_k_lnA (sk := in_sk) h.2.2.1 (by decide)
theorem f_typ (h : isF p n) {f : Value → Prop} : am_fd (mk s) p 1 2 f = f (.ref (p + 3)) := mk_fd (.inl (p + 3)) h.1 rfl
theorem fa_typ (h : isF p n) {i : Int32} {f : Int32 → Prop} : am_ai 0 (mk s) (p + 3) i f = (am_in i n = true ∧ f (s.1 (p + 3) i.toNatClampNeg)) := am_k_ai (sk := in_sk) h.2.2.2.1
theorem fw_typ (h : isF p n) {i x : Int32} {f : am_S → Prop} : am_wi 0 (mk s) (p + 3) i x f = (am_in i n = true ∧ f (mk (va_up s.1 (p + 3) (upd (s.1 (p + 3)) i.toNatClampNeg x), s.2))) := am_k_wi (sk := in_sk) h.2.2.2.1
theorem fl_typ (h : isF p n) {f : Int32 → Prop} : am_ln (mk s) (p + 3) f = f (Int32.ofNat n) := am_k_lnA (sk := in_sk) h.2.2.2.1 (by decide)
theorem f_lab (h : isF p n) {f : Value → Prop} : am_fd (mk s) p 1 3 f = f (.ref (p + 4)) := mk_fd (.inl (p + 4)) h.1 rfl
theorem fa_lab (h : isF p n) {i : Int32} {f : Int32 → Prop} : am_ai 0 (mk s) (p + 4) i f = (am_in i n = true ∧ f (s.1 (p + 4) i.toNatClampNeg)) := am_k_ai (sk := in_sk) h.2.2.2.2
theorem fw_lab (h : isF p n) {i x : Int32} {f : am_S → Prop} : am_wi 0 (mk s) (p + 4) i x f = (am_in i n = true ∧ f (mk (va_up s.1 (p + 4) (upd (s.1 (p + 4)) i.toNatClampNeg x), s.2))) := am_k_wi (sk := in_sk) h.2.2.2.2
theorem fl_lab (h : isF p n) {f : Int32 → Prop} : am_ln (mk s) (p + 4) f = f (Int32.ofNat n) := am_k_lnA (sk := in_sk) h.2.2.2.2 (by decide)
theorem f_used (h : isF p n) {f : Value → Prop} : am_fd (mk s) p 1 4 f = f (.int (s.2.1 p 4)) := mk_fd (.inr 0) h.1 rfl
theorem fv_used (h : isF p n) {y o : Nat} {x : Int32} {f : am_S → Prop} : am_wf y o (mk s) p 1 4 (.int x) f = f (mk (s.1, am_u2 s.2.1 p 4 x, s.2.2)) := am_k_wF (sk := in_sk) h.1 rfl rfl (fun h => by cases h)
theorem f_oc (h : isF p n) : am_oc (mk s) p = 1 := mk_oc h.1
theorem t_oc : am_oc (mk s) 0 = 0 := mk_oc rfl
theorem m_oc : am_oc (mk s) 121 = 6 := mk_oc rfl
end
