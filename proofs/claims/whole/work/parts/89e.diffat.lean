/-! A Difference at D: where its parts lie -/
def isD (D : Nat) : Prop := in_sk[D]? = some (.inr (.inr (4, [.inl (D + 1), .inl (D + 13), .inl (D + 21), .inl (D + 22), .inl (D + 23), .inl (D + 24), .inr 1, .inr 1, .inr 0]))) ∧ in_sk[D + 21]? = some (.inl (1, 12)) ∧ in_sk[D + 22]? = some (.inl (0, 12)) ∧ in_sk[D + 23]? = some (.inl (0, 12)) ∧ in_sk[D + 24]? = some (.inl (0, 12)) ∧ in_sk[D + 13]? = some (.inr (.inr (2, [.inl (D + 14), .inr 0]))) ∧ isP (D + 1)
theorem isD_k {D : Nat} (h : D = 23 ∨ D = 59 ∨ D = 89) : isD D := by
  rcases h with rfl | rfl | rfl
  · exact ⟨rfl, rfl, rfl, rfl, rfl, rfl, isP_k (Or.inl rfl)⟩
  · exact ⟨rfl, rfl, rfl, rfl, rfl, rfl, isP_k (Or.inr (Or.inl rfl))⟩
  · exact ⟨rfl, rfl, rfl, rfl, rfl, rfl, isP_k (Or.inr (Or.inr rfl))⟩
section
variable {s : St} {D : Nat}
theorem d_oc (h : isD D) : am_oc (mk s) D = 4 := mk_oc h.1
theorem d_0 (h : isD D) {f : Value → Prop} : am_fd (mk s) D 4 0 f = f (.ref (D + 1)) := mk_fd (.inl (D + 1)) h.1 rfl
theorem d_1 (h : isD D) {f : Value → Prop} : am_fd (mk s) D 4 1 f = f (.ref (D + 13)) := mk_fd (.inl (D + 13)) h.1 rfl
theorem d_2 (h : isD D) {f : Value → Prop} : am_fd (mk s) D 4 2 f = f (.ref (D + 21)) := mk_fd (.inl (D + 21)) h.1 rfl
theorem d_3 (h : isD D) {f : Value → Prop} : am_fd (mk s) D 4 3 f = f (.ref (D + 22)) := mk_fd (.inl (D + 22)) h.1 rfl
theorem d_4 (h : isD D) {f : Value → Prop} : am_fd (mk s) D 4 4 f = f (.ref (D + 23)) := mk_fd (.inl (D + 23)) h.1 rfl
theorem d_5 (h : isD D) {f : Value → Prop} : am_fd (mk s) D 4 5 f = f (.ref (D + 24)) := mk_fd (.inl (D + 24)) h.1 rfl
theorem d_6 (h : isD D) {f : Value → Prop} : am_fd (mk s) D 4 6 f = f (.ref (s.2.2 D 6)) := mk_fd (.inr 1) h.1 rfl
theorem d_7 (h : isD D) {f : Value → Prop} : am_fd (mk s) D 4 7 f = f (.ref (s.2.2 D 7)) := mk_fd (.inr 1) h.1 rfl
theorem d_8 (h : isD D) {f : Value → Prop} : am_fd (mk s) D 4 8 f = f (.int (s.2.1 D 8)) := mk_fd (.inr 0) h.1 rfl
theorem d_a2 (h : isD D) {i : Int32} {f : Int32 → Prop} : am_ai 1 (mk s) (D + 21) i f = (am_in i 12 = true ∧ f (s.1 (D + 21) i.toNatClampNeg)) := am_k_ai (sk := in_sk) h.2.1
theorem d_w2 (h : isD D) {i x : Int32} {f : am_S → Prop} : am_wi 1 (mk s) (D + 21) i x f = (am_in i 12 = true ∧ f (mk (va_up s.1 (D + 21) (upd (s.1 (D + 21)) i.toNatClampNeg x), s.2))) := am_k_wi (sk := in_sk) h.2.1
theorem d_a3 (h : isD D) {i : Int32} {f : Int32 → Prop} : am_ai 0 (mk s) (D + 22) i f = (am_in i 12 = true ∧ f (s.1 (D + 22) i.toNatClampNeg)) := am_k_ai (sk := in_sk) h.2.2.1
theorem d_w3 (h : isD D) {i x : Int32} {f : am_S → Prop} : am_wi 0 (mk s) (D + 22) i x f = (am_in i 12 = true ∧ f (mk (va_up s.1 (D + 22) (upd (s.1 (D + 22)) i.toNatClampNeg x), s.2))) := am_k_wi (sk := in_sk) h.2.2.1
theorem d_a4 (h : isD D) {i : Int32} {f : Int32 → Prop} : am_ai 0 (mk s) (D + 23) i f = (am_in i 12 = true ∧ f (s.1 (D + 23) i.toNatClampNeg)) := am_k_ai (sk := in_sk) h.2.2.2.1
theorem d_w4 (h : isD D) {i x : Int32} {f : am_S → Prop} : am_wi 0 (mk s) (D + 23) i x f = (am_in i 12 = true ∧ f (mk (va_up s.1 (D + 23) (upd (s.1 (D + 23)) i.toNatClampNeg x), s.2))) := am_k_wi (sk := in_sk) h.2.2.2.1
theorem d_a5 (h : isD D) {i : Int32} {f : Int32 → Prop} : am_ai 0 (mk s) (D + 24) i f = (am_in i 12 = true ∧ f (s.1 (D + 24) i.toNatClampNeg)) := am_k_ai (sk := in_sk) h.2.2.2.2.1
theorem d_w5 (h : isD D) {i x : Int32} {f : am_S → Prop} : am_wi 0 (mk s) (D + 24) i x f = (am_in i 12 = true ∧ f (mk (va_up s.1 (D + 24) (upd (s.1 (D + 24)) i.toNatClampNeg x), s.2))) := am_k_wi (sk := in_sk) h.2.2.2.2.1
theorem d_v6 (h : isD D) {y o x : Nat} {f : am_S → Prop} : am_wf y o (mk s) D 4 6 (.ref x) f = f (mk (s.1, s.2.1, am_u2 s.2.2 D 6 x)) := am_k_wG (sk := in_sk) h.1 rfl rfl (fun h => by cases h)
theorem d_v7 (h : isD D) {y o x : Nat} {f : am_S → Prop} : am_wf y o (mk s) D 4 7 (.ref x) f = f (mk (s.1, s.2.1, am_u2 s.2.2 D 7 x)) := am_k_wG (sk := in_sk) h.1 rfl rfl (fun h => by cases h)
theorem d_v8 (h : isD D) {y o : Nat} {x : Int32} {f : am_S → Prop} : am_wf y o (mk s) D 4 8 (.int x) f = f (mk (s.1, am_u2 s.2.1 D 8 x, s.2.2)) := am_k_wF (sk := in_sk) h.1 rfl rfl (fun h => by cases h)
end
