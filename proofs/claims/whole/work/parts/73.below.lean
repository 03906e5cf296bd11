/-! Who is below whom: the class's masks -/
theorem nI_or {a b : Nat} (ha : a < 2 ^ 31) (hb : b < 2 ^ 31) : nI a ||| nI b = nI (a ||| b) := by
  apply Int32.toBitVec_inj.mp
  apply BitVec.eq_of_toNat_eq
  rw [Int32.toBitVec_or, BitVec.toNat_or, pk_tn (by omega), pk_tn (by omega), pk_tn]
  exact Nat.lt_trans (Nat.or_lt_two_pow ha hb) (by decide)
theorem sh_amt : ∀ n : Fin 12, ((nI n.val &&& 31).toBitVec.smod 32).toNat = n.val := by decide
theorem nI_bit {v n : Nat} (hv : v < 2 ^ 31) (hn : n < 12) : (nI v >>> (nI n &&& 31)) &&& 1 = bI (v.testBit n) := by
  rw [pk_shrN hv _ n (sh_amt ⟨n, hn⟩), pk_andN (n := v / 2 ^ n) (Nat.lt_of_le_of_lt (Nat.div_le_self _ _) (by omega)) 1 rfl, Nat.testBit_eq_decide_div_mod_eq]
  have h2 : v / 2 ^ n % 2 ^ 1 < 2 := Nat.mod_lt _ (by decide)
  by_cases e : v / 2 ^ n % 2 = 1
  · rw [decide_eq_true e]
    have e' : v / 2 ^ n % 2 ^ 1 = 1 := e
    rw [e']; rfl
  · rw [decide_eq_false e]
    have e' : v / 2 ^ n % 2 ^ 1 = 0 := by
      have : ¬ v / 2 ^ n % 2 ^ 1 = 1 := e
      omega
    rw [e']; rfl
theorem nI_shl {n : Nat} (hn : n < 12) : (1 : Int32) <<< (nI n &&& 31) = nI (2 ^ n) := by
  have h : 2 ^ n < 2 ^ 12 := Nat.pow_lt_pow_right (by decide) hn
  show nI 1 <<< _ = _
  rw [pk_shlN _ n (sh_amt ⟨n, hn⟩) (by omega), Nat.one_mul]
/-- b is below a -/
def bl (t : Tr) (a b : Nat) : Bool := decide (a < b) && (lev t a b).isSome
theorem bl_lt {t : Tr} {a b : Nat} (h : bl t a b = true) : a < b := by
  unfold bl at h
  rw [Bool.and_eq_true] at h
  exact of_decide_eq_true h.1
theorem bl_iff {t : Tr} {a b : Nat} (hb : 0 < b) : bl t a b = true ↔ pm t b = a ∨ bl t a (pm t b) = true := by
  have hp := pm_lt t hb
  unfold bl
  rw [Bool.and_eq_true, Bool.and_eq_true, decide_eq_true_iff, decide_eq_true_iff]
  constructor
  · rintro ⟨h1, h2⟩
    rw [lev_gt t h1] at h2
    by_cases e : pm t b = a
    · exact Or.inl e
    · refine Or.inr ?_
      by_cases e2 : pm t b < a
      · rw [lev_lt t e2] at h2; exact absurd h2 (by decide)
      · refine ⟨by omega, ?_⟩
        cases hl : lev t a (pm t b) with
        | none => rw [hl] at h2; exact absurd h2 (by decide)
        | some k => rfl
  · rintro (e | ⟨h1, h2⟩)
    · refine ⟨by omega, ?_⟩
      rw [lev_gt t (by omega), e, lev_self]; rfl
    · refine ⟨by omega, ?_⟩
      rw [lev_gt t (by omega)]
      cases hl : lev t a (pm t b) with
      | none => rw [hl] at h2; exact absurd h2 (by decide)
      | some k => rfl
theorem bl_kid {t : Tr} {a : Nat} : ∀ b, bl t a b = true ↔ ∃ c, 0 < c ∧ pm t c = a ∧ (c = b ∨ bl t c b = true) := by
  intro b
  induction b using Nat.strongRecOn with
  | ind b ih =>
    by_cases hb : 0 < b
    · have hp := pm_lt t hb
      rw [bl_iff hb]
      constructor
      · rintro (e | h)
        · exact ⟨b, hb, e, Or.inl rfl⟩
        · obtain ⟨c, c1, c2, c3⟩ := (ih _ hp).mp h
          refine ⟨c, c1, c2, Or.inr ((bl_iff hb).mpr ?_)⟩
          rcases c3 with e | e
          · exact Or.inl e.symm
          · exact Or.inr e
      · rintro ⟨c, c1, c2, c3⟩
        rcases c3 with e | e
        · rw [e] at c2; exact Or.inl c2
        · refine Or.inr ((ih _ hp).mpr ⟨c, c1, c2, ?_⟩)
          rcases (bl_iff hb).mp e with e2 | e2
          · exact Or.inl e2.symm
          · exact Or.inr e2
    · have e : b = 0 := by omega
      subst e
      constructor
      · intro h; exact absurd (bl_lt h) (Nat.not_lt_zero _)
      · rintro ⟨c, c1, c2, c3⟩
        rcases c3 with e | e
        · omega
        · exact absurd (bl_lt e) (Nat.not_lt_zero _)
/-- masks of who is below -/
def blM (t : Tr) (B : Nat → Nat) : Prop := (∀ a, B a < 4096) ∧ ∀ a b, (B a).testBit b = true ↔ b < t.1 ∧ bl t a b = true
section
variable {L : Nat} {xs : Nat → Int32} {d : Nat} {s : St} {Q : Option Value → am_S → Prop}
theorem c_mb_loop {p q : Nat} {t : Tr} (hF : isF p 12) (hc : cT s p t) (hw : tW t) (hq : in_sk[q]? = some (.inl (0, 12))) (hqp : q ≠ p + 1) : ∀ (m : Nat) (B : Nat → Nat), m < t.1 →
    (∀ a, B a < 4096) → (∀ a b, (B a).testBit b = true ↔ ∃ c, m < c ∧ c < t.1 ∧ pm t c = a ∧ b < t.1 ∧ (c = b ∨ bl t c b = true)) →
    ∃ B' : Nat → Nat, blM t B' ∧ ∀ Q : Option Value → am_S → Prop, am_Rn L xs (d + 1) 26 12 [.ref p, .ref q, .int (nI m)] [] (mk (va_up s.1 q (nA B (s.1 q)), s.2)) Q = Q none (mk (va_up s.1 q (nA B' (s.1 q)), s.2))
  | 0, B, hm, i1, i2 => by
    refine ⟨B, ⟨i1, fun a b => (i2 a b).trans ?_⟩, fun Q => ?_⟩
    · rw [bl_kid]
      constructor
      · rintro ⟨c, c1, c2, c3, c4, c5⟩
        exact ⟨c4, c, c1, c3, c5⟩
      · rintro ⟨h, c, c1, c3, c5⟩
        refine ⟨c, c1, ?_, c3, h, c5⟩
        rcases c5 with e | e
        · omega
        · have := bl_lt e; omega
    · have h0 : nI 0 ≤ 0 := by decide
      simp only [r26_12, r26_13, r26_40, am_li0, am_liS, h0, if_true]
  | m + 1, B, hm, i1, i2 => by
    have h12 := hw.1
    have hpl := pm_lt t (show 0 < m + 1 by omega)
    have hpe := pm_eq hw (show 0 < m + 1 by omega) hm
    generalize hpk : pm t (m + 1) = k at hpl hpe
    have p2 : 2 ^ (m + 1) < 4096 := Nat.pow_lt_pow_right (by decide) (show m + 1 < 12 by omega)
    have b1 := i1 k
    have b2 := i1 (m + 1)
    have o1 : B (m + 1) ||| 2 ^ (m + 1) < 4096 := Nat.or_lt_two_pow (n := 12) b2 p2
    have o2 : B k ||| (B (m + 1) ||| 2 ^ (m + 1)) < 4096 := Nat.or_lt_two_pow (n := 12) b1 o1
    obtain ⟨B', hB', hr⟩ := c_mb_loop hF hc hw hq hqp m (uN B k (B k ||| (B (m + 1) ||| 2 ^ (m + 1)))) (by omega) (fun a => by
      unfold uN; split
      · exact o2
      · exact i1 a) (fun a b => by
      unfold uN
      by_cases e : a = k
      · rw [if_pos e, Nat.testBit_or, Nat.testBit_or, Nat.testBit_two_pow, Bool.or_eq_true, Bool.or_eq_true, i2, i2, decide_eq_true_iff]
        constructor
        · rintro (⟨c, c1, c2, c3, c4, c5⟩ | ⟨c, c1, c2, c3, c4, c5⟩ | c1)
          · exact ⟨c, by omega, c2, c3.trans e.symm, c4, c5⟩
          · exact ⟨m + 1, by omega, hm, by rw [hpk]; exact e.symm, c4, Or.inr ((bl_kid b).mpr ⟨c, by omega, c3, c5⟩)⟩
          · exact ⟨m + 1, by omega, hm, by rw [hpk]; exact e.symm, by omega, Or.inl c1⟩
        · rintro ⟨c, c1, c2, c3, c4, c5⟩
          by_cases ec : c = m + 1
          · refine Or.inr ?_
            rw [ec] at c5
            rcases c5 with c5 | c5
            · exact Or.inr c5
            · obtain ⟨x, x1, x2, x3⟩ := (bl_kid b).mp c5
              refine Or.inl ⟨x, ?_, ?_, x2, c4, x3⟩
              · have := pm_lt t x1; omega
              · rcases x3 with e3 | e3
                · omega
                · have := bl_lt e3; omega
          · exact Or.inl ⟨c, by omega, c2, c3.trans e, c4, c5⟩
      · rw [if_neg e, i2]
        constructor
        · rintro ⟨c, c1, c2, c3, c4, c5⟩
          exact ⟨c, by omega, c2, c3, c4, c5⟩
        · rintro ⟨c, c1, c2, c3, c4, c5⟩
          refine ⟨c, ?_, c2, c3, c4, c5⟩
          by_cases ec : c = m + 1
          · rw [ec, hpk] at c3; exact absurd c3.symm e
          · omega)
    refine ⟨B', hB', fun Q => ?_⟩
    rw [← hr Q]
    have h0 : ¬ nI (m + 1) ≤ 0 := nI_nle (by omega) (by omega)
    have h1 : am_in (nI (m + 1)) 12 = true := in_of (by omega) (by decide)
    have h2 : (nI (m + 1)).toNatClampNeg = m + 1 := nI_clamp (by omega)
    have h3 : am_in (nI k) 12 = true := in_of (by omega) (by decide)
    have h4 : (nI k).toNatClampNeg = k := nI_clamp (by omega)
    have h5 : ∀ g : Nat → Int32, va_up s.1 q g (p + 1) = s.1 (p + 1) := fun g => up_ne _ _ (Ne.symm hqp)
    have h6 : s.1 (p + 1) (m + 1) = nI k := (hc.2.1 (m + 1) hm).1.trans hpe
    have hw' : ∀ (S : St) (x i : Int32) (f : am_S → Prop), am_wi 0 (mk S) q i x f = (am_in i 12 = true ∧ f (mk (va_up S.1 q (upd (S.1 q) i.toNatClampNeg x), S.2))) := fun S x i f => am_k_wi (sk := in_sk) hq
    have hr' : ∀ (S : St) (i : Int32) (f : Int32 → Prop), am_ai 0 (mk S) q i f = (am_in i 12 = true ∧ f (S.1 q i.toNatClampNeg)) := fun S i f => am_k_ai (sk := in_sk) hq
    have e9 : nI (m + 1) + -1 = nI m := pk_m1 m
    have hs : (1 : Int32) <<< (nI (m + 1) &&& 31) = nI (2 ^ (m + 1)) := nI_shl (by omega)
    have q1 : nI (B (m + 1)) ||| nI (2 ^ (m + 1)) = nI (B (m + 1) ||| 2 ^ (m + 1)) := nI_or (by omega) (by omega)
    have q2 : nI (B k) ||| nI (B (m + 1) ||| 2 ^ (m + 1)) = nI (B k ||| (B (m + 1) ||| 2 ^ (m + 1))) := nI_or (by omega) (by omega)
    rw [r26_12]
    simp only [r26_13, r26_16, r26_17, r26_18, r26_21, r26_22, r26_23, r26_24, r26_25, r26_26, r26_27, r26_28, r26_29, r26_30, r26_31, r26_32, r26_33, r26_34, r26_37, am_li0, am_liS, am_laR0, am_laS, f_par hF, fa_par hF, hr', hw', h0, h1, h2, h3, h4, h5, h6, up_same, up_up, nA_at B (s.1 q) (show m + 1 < 12 by omega), nA_at B (s.1 q) (show k < 12 by omega), hs, q1, q2, nA_upd B (s.1 q) (show k < 12 by omega), e9, if_false, am_okI, am_okR, Bool.and_self, List.length_cons, List.length_nil, List.set_cons_succ, List.set_cons_zero, Nat.reduceAdd, Nat.reduceLeDiff, true_and]
theorem c_mb {p q : Nat} {t : Tr} (hF : isF p 12) (hc : cT s p t) (hw : tW t) (h0 : 0 < t.1) (hq : in_sk[q]? = some (.inl (0, 12))) (hqp : q ≠ p + 1) :
    ∃ B : Nat → Nat, blM t B ∧ ∀ Q : Option Value → am_S → Prop, am_Call L xs (d + 1) 26 [.ref p, .ref q] (mk s) Q = Q none (mk (va_up s.1 q (nA B (s.1 q)), s.2)) := by
  have h12 := hw.1
  obtain ⟨B, h1, h2⟩ := c_mb_loop (L := L) (xs := xs) (d := d) hF hc hw hq hqp (t.1 - 1) (fun _ => 0) (by omega) (fun _ => by decide) (fun a b => by
    rw [Nat.zero_testBit]
    constructor
    · intro h; cases h
    · rintro ⟨c, c1, c2, -⟩; omega)
  refine ⟨B, h1, fun Q => ?_⟩
  rw [← h2 Q]
  have e1 : nI t.1 - 1 = nI (t.1 - 1) := by
    have : t.1 = (t.1 - 1) + 1 := by omega
    rw [this, nI_pred]; rfl
  have e2 : fil 12 0 (s.1 q) = nA (fun _ => 0) (s.1 q) := nA_fil 0 _
  simp only [e26, r26_0, r26_1, r26_2, r26_5, r26_6, r26_9, r26_10, r26_11, am_laR0, am_laS, am_liS, am_li0, a_fill hq (by decide), am_tN, f_used hF, hc.1, e1, e2, am_okI, am_okR, List.length_cons, List.length_nil, List.set_cons_succ, List.set_cons_zero, Nat.reduceAdd, Nat.reduceLT, Nat.zero_le, and_true, true_and]
end
