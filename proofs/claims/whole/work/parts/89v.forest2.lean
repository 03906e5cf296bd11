/-! The class's result: putting, taking out, labels -/
/-- the forest at 54 holds the result -/
def cR (s : St) (R : Rs) : Prop := s.2.1 54 4 = nI R.1 ∧ (∀ n, n < 36 → n ∉ R.2.1 → s.1 55 n = -2) ∧ ∀ n, n ∈ R.2.1 → s.1 55 n = R.2.2.1 n ∧ s.1 56 n = nI (plL R.2.2.1 (R.2.2.1 n) R.2.1 n) ∧ s.1 57 n = R.2.2.2.1 n ∧ s.1 58 n = R.2.2.2.2 n
theorem isF_54 : isF 54 36 := ⟨rfl, rfl, rfl, rfl, rfl⟩
theorem cR_th {s : St} {R : Rs} (hR : rOk R) (h : cR s R) {n : Nat} (hn : n < 36) : s.1 55 n = -2 ↔ n ∉ R.2.1 := by
  constructor
  · intro e q
    rw [(h.2.2 n q).1] at e
    exact hR.2.2.2 n q e
  · exact h.2.1 n hn
theorem cR_hs {s : St} {R : Rs} (hR : rOk R) (h : cR s R) (b : Int32) : (∃ j, j < R.1 ∧ b = nI j ∧ ¬ s.1 55 j = -2) ↔ hsB R.2.1 b = true := by
  have h36 := hR.1
  rw [hsB_iff]
  constructor
  · rintro ⟨j, j1, j2, j3⟩
    refine ⟨j, Classical.byContradiction fun q => j3 ((cR_th hR h (by omega)).mpr q), j2⟩
  · rintro ⟨j, j1, j2⟩
    have := hR.2.2.1 j j1
    exact ⟨j, this, j2, fun q => (cR_th hR h (by omega)).mp q j1⟩
/-- places are small -/
theorem pl_36 {R : Rs} (hR : rOk R) (x : Int32) (n : Nat) : plL R.2.2.1 x R.2.1 n ≤ 36 := Nat.le_trans (plL_le _ _ _ _) (Nat.le_trans (ctL_le _ _ _) (rOk_len hR))
def shD (f g : Nat → Int32) (k i : Nat) : Nat → Int32 := fun j => if j < i ∧ f j = f k ∧ g k < g j then g j - 1 else g j
theorem shD_0 (f g : Nat → Int32) (k : Nat) : shD f g k 0 = g := by
  funext j; unfold shD; rw [if_neg (fun h => Nat.not_lt_zero _ h.1)]
theorem shD_at (f g : Nat → Int32) (k i : Nat) : shD f g k i i = g i := by
  unfold shD; rw [if_neg (fun h => Nat.lt_irrefl _ h.1)]
theorem shD_k (f g : Nat → Int32) (k i : Nat) : shD f g k i k = g k := by
  unfold shD; rw [if_neg (fun h => Int32.lt_irrefl h.2.2)]
theorem shD_y (f g : Nat → Int32) (k i : Nat) (h1 : f i = f k) (h2 : g k < g i) : upd (shD f g k i) i (g i - 1) = shD f g k (i + 1) := by
  funext j
  unfold upd
  by_cases h : j = i
  · subst h
    rw [if_pos rfl]
    unfold shD
    rw [if_pos ⟨by omega, h1, h2⟩]
  · rw [if_neg h]
    unfold shD
    by_cases h3 : j < i ∧ f j = f k ∧ g k < g j
    · rw [if_pos h3, if_pos ⟨by omega, h3.2⟩]
    · rw [if_neg h3, if_neg (fun q => h3 ⟨by omega, q.2⟩)]
theorem shD_n (f g : Nat → Int32) (k i : Nat) (h1 : ¬ (f i = f k ∧ g k < g i)) : shD f g k i = shD f g k (i + 1) := by
  funext j
  unfold shD
  by_cases h3 : j < i ∧ f j = f k ∧ g k < g j
  · rw [if_pos h3, if_pos ⟨by omega, h3.2⟩]
  · rw [if_neg h3, if_neg (fun q => h3 ⟨by
      have := q.1
      by_cases e : j = i
      · subst e; exact absurd q.2 h1
      · omega, q.2⟩)]
section
variable {L : Nat} {xs : Nat → Int32} {d : Nat} {s : St} {p n u : Nat}
theorem c_to_loop (hF : isF p n) (hn : n < 2 ^ 31) (hu : s.2.1 p 4 = nI u) (hun : u ≤ n) {k : Nat} (hk : k < u) {Q : Option Value → am_S → Prop} : ∀ (m i : Nat), u - i = m → i ≤ u →
    am_Rn L xs d 65 11 [.ref p, .int (nI k), .int (nI i)] [] (mk (va_up s.1 (p + 2) (shD (s.1 (p + 1)) (s.1 (p + 2)) k i), s.2)) Q =
    Q none (mk (va_up (va_up s.1 (p + 2) (shD (s.1 (p + 1)) (s.1 (p + 2)) k u)) (p + 1) (upd (s.1 (p + 1)) k (-2)), s.2))
  | 0, i, hm, hi => by
    have e1 : i = u := by omega
    subst e1
    have h1 : nI i ≤ nI i := nI_le (Nat.le_refl _) (by omega)
    have h2 : am_in (nI k) n = true := in_of (by omega) hn
    have h3 : (nI k).toNatClampNeg = k := nI_clamp (by omega)
    have h5 : ∀ g : Nat → Int32, va_up s.1 (p + 2) g (p + 1) = s.1 (p + 1) := fun g => up_ne _ _ (by omega)
    rw [r65_11]
    simp only [r65_12, r65_13, r65_16, r65_65, r65_66, r65_69, r65_70, r65_72, r65_73, am_li0, am_liS, am_laR0, f_used hF, f_par hF, fw_par hF, hu, h1, h2, h3, h5, if_true, true_and]
  | m + 1, i, hm, hi => by
    have h1 : ¬ nI u ≤ nI i := nI_ge (by omega) (by omega)
    have h2 : am_in (nI i) n = true := in_of (by omega) hn
    have h3 : (nI i).toNatClampNeg = i := nI_clamp (by omega)
    have k2 : am_in (nI k) n = true := in_of (by omega) hn
    have k3 : (nI k).toNatClampNeg = k := nI_clamp (by omega)
    have h5 : ∀ g : Nat → Int32, va_up s.1 (p + 2) g (p + 1) = s.1 (p + 1) := fun g => up_ne _ _ (by omega)
    have ih := c_to_loop hF hn hu hun hk (Q := Q) m (i + 1) (by omega) (by omega)
    rw [← ih, r65_11]
    by_cases hx : s.1 (p + 1) i = s.1 (p + 1) k
    · by_cases hy : s.1 (p + 2) i ≤ s.1 (p + 2) k
      · rw [← shD_n _ _ _ _ (fun q => Int32.not_lt.mpr hy q.2)]
        simp only [r65_12, r65_13, r65_16, r65_19, r65_20, r65_23, r65_24, r65_25, r65_26, r65_29, r65_30, r65_31, r65_34, r65_35, r65_38, r65_39, r65_40, r65_41, r65_44, r65_45, r65_46, r65_59, r65_62, am_li0, am_liS, am_laR0, f_used hF, f_par hF, fa_par hF, f_pla hF, fa_pla hF, hu, h1, h2, h3, k2, k3, h5, hx, hy, up_same, shD_at, shD_k, not_true, if_true, if_false, true_and, List.set_cons_succ, List.set_cons_zero, nI_1]
      · rw [← shD_y _ _ _ _ hx (Int32.not_le.mp hy)]
        simp only [r65_12, r65_13, r65_16, r65_19, r65_20, r65_23, r65_24, r65_25, r65_26, r65_29, r65_30, r65_31, r65_34, r65_35, r65_38, r65_39, r65_40, r65_41, r65_44, r65_45, r65_46, r65_49, r65_50, r65_53, r65_54, r65_55, r65_56, r65_57, r65_58, r65_59, r65_62, am_li0, am_liS, am_laR0, f_used hF, f_par hF, fa_par hF, f_pla hF, fa_pla hF, fw_pla hF, hu, h1, h2, h3, k2, k3, h5, hx, hy, up_same, up_up, shD_at, shD_k, am_okI, am_okR, Bool.and_self, eq_self, not_true, if_true, if_false, true_and, List.set_cons_succ, List.set_cons_zero, nI_1]
    · rw [← shD_n _ _ _ _ (fun q => hx q.1)]
      simp only [r65_12, r65_13, r65_16, r65_19, r65_20, r65_23, r65_24, r65_25, r65_26, r65_29, r65_30, r65_31, r65_59, r65_62, am_li0, am_liS, am_laR0, f_used hF, f_par hF, fa_par hF, hu, h1, h2, h3, k2, k3, h5, hx, not_false_eq_true, if_true, if_false, true_and, List.set_cons_succ, List.set_cons_zero, nI_1]
/-- a node of the result, taken out -/
theorem c_takeOut {R : Rs} {v : Nat} (hR : rOk R) (h : cR s R) (hv : v ∈ R.2.1) :
    ∃ s' : St, cR s' (R.1, rmv v R.2.1, R.2.2) ∧ (s'.1 57 = s.1 57 ∧ s'.1 58 = s.1 58) ∧ frF 54 s s' ∧ ∀ Q : Option Value → am_S → Prop, am_Call L xs (d + 1) 65 [.ref 54, .int (nI v)] (mk s) Q = Q none (mk s') := by
  have h36 := hR.1
  have hvu := hR.2.2.1 v hv
  generalize hs1 : ((va_up (va_up s.1 56 (shD (s.1 55) (s.1 56) v R.1)) 55 (upd (s.1 55) v (-2)), s.2) : St) = s1
  have a1 : s1.1 55 = upd (s.1 55) v (-2) := by rw [← hs1]; dsimp only; rw [up_same]
  have a2 : s1.1 56 = shD (s.1 55) (s.1 56) v R.1 := by rw [← hs1]; dsimp only; rw [up_ne _ _ (by omega), up_same]
  have a3 : ∀ q, q ≠ 55 → q ≠ 56 → s1.1 q = s.1 q := fun q n1 n2 => by rw [← hs1]; dsimp only; rw [up_ne _ _ n1, up_ne _ _ n2]
  have a4 : s1.2 = s.2 := by rw [← hs1]
  refine ⟨s1, ⟨by rw [a4]; exact h.1, fun n hn hq => ?_, fun n hq => ?_⟩, ⟨a3 57 (by omega) (by omega), a3 58 (by omega) (by omega)⟩, ⟨fun q hq => a3 q (by omega) (by omega), fun _ _ _ => by rw [a4], by rw [a4]⟩, fun Q => ?_⟩
  · rw [a1]
    by_cases e : n = v
    · rw [e, upd_s]
    · rw [upd_n _ _ e]
      exact h.2.1 n hn (fun q => hq (rmv_mem.mpr ⟨q, e⟩))
  · obtain ⟨q1, q2⟩ := rmv_mem.mp hq
    obtain ⟨e1, e2, e3, e4⟩ := h.2.2 n q1
    obtain ⟨g1, g2, g3, g4⟩ := h.2.2 v hv
    have hnu := hR.2.2.1 n q1
    rw [a1, a2, a3 57 (by omega) (by omega), a3 58 (by omega) (by omega), upd_n _ _ q2]
    refine ⟨e1, ?_, e3, e4⟩
    dsimp only
    rw [rmv_pl hR.2.1 hv n q1 q2 _ rfl]
    have b1 := pl_36 hR (R.2.2.1 n) n
    have b2 := pl_36 hR (R.2.2.1 n) v
    unfold shD
    rw [e1, g1]
    by_cases c : R.2.2.1 v = R.2.2.1 n
    · rw [e2, g2, c]
      by_cases c2 : plL R.2.2.1 (R.2.2.1 n) R.2.1 v < plL R.2.2.1 (R.2.2.1 n) R.2.1 n
      · rw [if_pos ⟨hnu, rfl, nI_lt c2 (by omega)⟩, if_pos ⟨rfl, c2⟩]
        obtain ⟨m, hm⟩ : ∃ m, plL R.2.2.1 (R.2.2.1 n) R.2.1 n = m + 1 := ⟨_, (Nat.sub_add_cancel (by omega)).symm⟩
        rw [hm, nI_pred]; rfl
      · rw [if_neg (fun q => nI_nlt (by omega) (by omega) q.2.2), if_neg (fun q => c2 q.2)]
    · rw [if_neg (fun q => c q.2.1.symm), if_neg (fun q => c q.1), e2]
  · have hl := c_to_loop (L := L) (xs := xs) (d := d + 1) (s := s) isF_54 (by decide) h.1 h36 hvu (Q := Q) R.1 0 (by omega) (Nat.zero_le _)
    rw [shD_0, up_self] at hl
    have hl : am_Rn L xs (d + 1) 65 11 [.ref 54, .int (nI v), .int 0] [] (mk s) Q = Q none (mk ((va_up (va_up s.1 56 (shD (s.1 55) (s.1 56) v R.1)) 55 (upd (s.1 55) v (-2)), s.2) : St)) := hl
    rw [hs1] at hl
    have hh : ∃ j, j < R.1 ∧ nI v = nI j ∧ ¬ s.1 (54 + 1) j = -2 := (cR_hs hR h (nI v)).mpr (hsB_iff.mpr ⟨v, hv, rfl⟩)
    have n1 : ¬ (1 : Int32) = 0 := by decide
    refine Eq.trans ?_ hl
    simp only [e65, r65_0, r65_1, r65_2, r65_5, r65_9, r65_10, am_li0, am_liS, am_laR0, am_tL, f_oc isF_54, c_has isF_54 (by decide) h.1 h36, hh, n1, not_false_eq_true, if_true, am_okI, List.length_cons, List.length_nil, List.set_cons_succ, List.set_cons_zero, Nat.reduceAdd, Nat.reduceLT, Nat.zero_le, Nat.reduceLeDiff, and_true, true_and]
/-- a node that is not there, put under p behind b -/
theorem c_putR {R : Rs} {v : Nat} {p b : Int32} (hR : rOk R) (h : cR s R) (hv : v ∉ R.2.1) (hvu : v < R.1) (hb : okB R v p b) (t1 : s.1 57 v = R.2.2.2.1 v) (t2 : s.1 58 v = R.2.2.2.2 v) :
    ∃ s' : St, cR s' (R.1, insB R.2.1 b v, upd R.2.2.1 v p, R.2.2.2) ∧ frF 54 s s' ∧ ∀ Q : Option Value → am_S → Prop, am_Call L xs (d + 1) 13 [.ref 54, .int (nI v), .int p, .int b] (mk s) Q = Q none (mk s') := by
  have h36 := hR.1
  have hl := rOk_lt hR
  have hbb : ∀ m, m ∈ R.2.1 → b = nI m → R.2.2.1 m = p := fun m hm e => hb.2.2 m hm (fun q => hv (by rw [← q]; exact hm)) e
  have hpl : plB (s.1 55) (s.1 56) R.1 b = nI (plAt R.2.2.1 p R.2.1 b) := by
    unfold plB plAt
    by_cases c : hsB R.2.1 b = true
    · rw [if_pos ((cR_hs hR h b).mpr c), if_pos c]
      obtain ⟨m, m1, m2⟩ := hsB_iff.mp c
      have e : b.toNatClampNeg = m := by rw [m2]; exact nI_clamp (hl m m1)
      rw [e, (h.2.2 m m1).2.1, hbb m m1 m2, nI_1]
    · rw [if_neg (fun q => c ((cR_hs hR h b).mp q)), if_neg c]; rfl
  have hat : plAt R.2.2.1 p R.2.1 b ≤ 37 := by
    unfold plAt
    split
    · have := pl_36 hR p b.toNatClampNeg; omega
    · omega
  generalize hs1 : ((va_up (va_up s.1 55 (upd (s.1 55) v p)) 56 (upd (shU (s.1 55) p (nI (plAt R.2.2.1 p R.2.1 b)) R.1 (s.1 56)) v (nI (plAt R.2.2.1 p R.2.1 b))), s.2) : St) = s1
  have a1 : s1.1 55 = upd (s.1 55) v p := by rw [← hs1]; dsimp only; rw [up_ne _ _ (by omega), up_same]
  have a2 : s1.1 56 = upd (shU (s.1 55) p (nI (plAt R.2.2.1 p R.2.1 b)) R.1 (s.1 56)) v (nI (plAt R.2.2.1 p R.2.1 b)) := by rw [← hs1]; dsimp only; rw [up_same]
  have a3 : ∀ q, q ≠ 55 → q ≠ 56 → s1.1 q = s.1 q := fun q n1 n2 => by rw [← hs1]; dsimp only; rw [up_ne _ _ n2, up_ne _ _ n1]
  have a4 : s1.2 = s.2 := by rw [← hs1]
  refine ⟨s1, ⟨by rw [a4]; exact h.1, fun n hn hq => ?_, fun n hq => ?_⟩, ⟨fun q hq => a3 q (by omega) (by omega), fun _ _ _ => by rw [a4], by rw [a4]⟩, fun Q => ?_⟩
  · rw [a1, upd_n _ _ (fun e => hq ((insB_mem hl).mpr (Or.inl e)))]
    exact h.2.1 n hn (fun q => hq ((insB_mem hl).mpr (Or.inr q)))
  · rw [a1, a2, a3 57 (by omega) (by omega), a3 58 (by omega) (by omega)]
    dsimp only
    rcases (insB_mem hl).mp hq with e | hn
    · subst e
      rw [upd_s, upd_s, upd_s, ins_plv hl hv hbb]
      exact ⟨rfl, rfl, t1, t2⟩
    · have e : n ≠ v := fun q => hv (by rw [← q]; exact hn)
      obtain ⟨e1, e2, e3, e4⟩ := h.2.2 n hn
      have hnu := hR.2.2.1 n hn
      rw [upd_n _ _ e, upd_n _ _ e, upd_n _ _ e, ins_pl hl hR.2.1 hv hbb n hn _ rfl]
      refine ⟨e1, ?_, e3, e4⟩
      have b1 := pl_36 hR (R.2.2.1 n) n
      unfold shU
      rw [e1, e2]
      by_cases c : R.2.2.1 n = p ∧ plAt R.2.2.1 p R.2.1 b ≤ plL R.2.2.1 (R.2.2.1 n) R.2.1 n
      · rw [if_pos c, if_pos ⟨hnu, c.1, nI_le c.2 (by omega)⟩, nI_1]
      · rw [if_neg c, if_neg]
        rintro ⟨-, c1, c2⟩
        exact c ⟨c1, Classical.byContradiction fun q => nI_ge (show plL R.2.2.1 (R.2.2.1 n) R.2.1 n < plAt R.2.2.1 p R.2.1 b by omega) (by omega) c2⟩
  · have := c_put (L := L) (xs := xs) (d := d) (s := s) (Q := Q) isF_54 (by decide) h.1 h36 hvu (w := p) (b := b)
    have this : am_Call L xs (d + 1) 13 [.ref 54, .int (nI v), .int p, .int b] (mk s) Q = Q none (mk (va_up (va_up s.1 55 (upd (s.1 55) v p)) 56 (upd (shU (s.1 55) p (plB (s.1 55) (s.1 56) R.1 b) R.1 (s.1 56)) v (plB (s.1 55) (s.1 56) R.1 b)), s.2)) := this
    rw [hpl, hs1] at this
    exact this
end
