/-! Which children stay: the first of the longest ordered parts of a row -/
/-- how many of the first n are in S -/
def lz (S : Nat → Bool) : Nat → Nat
  | 0 => 0
  | n + 1 => lz S n + (if S n = true then 1 else 0)
theorem lz_s (S : Nat → Bool) (n : Nat) : lz S (n + 1) = lz S n + (if S n = true then 1 else 0) := rfl
theorem lz_le (S : Nat → Bool) : ∀ n, lz S n ≤ n
  | 0 => Nat.le_refl _
  | n + 1 => by have := lz_le S n; rw [lz_s]; split <;> omega
theorem lz_congr {S P : Nat → Bool} : ∀ n, (∀ k, k < n → S k = P k) → lz S n = lz P n
  | 0, _ => rfl
  | n + 1, h => by rw [lz_s, lz_s, lz_congr n (fun k hk => h k (by omega)), h n (by omega)]
/-- the values of those in S grow -/
def linc (v : Nat → Nat) (n : Nat) (S : Nat → Bool) : Prop := ∀ i j, i < j → j < n → S i = true → S j = true → v i < v j
/-- S has the first of those in which they differ -/
def llx (n : Nat) (S P : Nat → Bool) : Prop := ∃ i, i < n ∧ S i = true ∧ P i = false ∧ ∀ j, j < i → S j = P j
def lbst (v : Nat → Nat) (n : Nat) (S : Nat → Bool) : Prop := linc v n S ∧ ∀ S', linc v n S' → (∃ k, k < n ∧ S' k ≠ S k) → lz S' n < lz S n ∨ (lz S' n = lz S n ∧ llx n S S')
theorem llx_no {n : Nat} {S P : Nat → Bool} (h : llx n S P) (h' : llx n P S) : False := by
  obtain ⟨i, i1, i2, i3, i4⟩ := h
  obtain ⟨j, j1, j2, j3, j4⟩ := h'
  rcases Nat.lt_trichotomy i j with e | e | e
  · have := j4 i e; rw [i2, i3] at this; cases this
  · subst e; rw [i2] at j3; cases j3
  · have := i4 j e; rw [j2, j3] at this; cases this
theorem llx_tr {n : Nat} {S P R : Nat → Bool} (h : llx n S P) (h' : llx n P R) : llx n S R := by
  obtain ⟨i, i1, i2, i3, i4⟩ := h
  obtain ⟨j, j1, j2, j3, j4⟩ := h'
  rcases Nat.lt_trichotomy i j with e | e | e
  · exact ⟨i, i1, i2, by rw [← j4 i e]; exact i3, fun k hk => (i4 k hk).trans (j4 k (by omega))⟩
  · subst e; rw [i3] at j2; cases j2
  · exact ⟨j, j1, by rw [i4 j e]; exact j2, j3, fun k hk => (i4 k (by omega)).trans (j4 k hk)⟩
theorem llx_tot {S P : Nat → Bool} : ∀ n, (∃ k, k < n ∧ S k ≠ P k) → llx n S P ∨ llx n P S
  | 0, ⟨k, h, _⟩ => absurd h (Nat.not_lt_zero _)
  | n + 1, ⟨k, h, e⟩ => by
    by_cases hd : ∃ k, k < n ∧ S k ≠ P k
    · rcases llx_tot n hd with ⟨i, i1, i2⟩ | ⟨i, i1, i2⟩
      · exact Or.inl ⟨i, by omega, i2⟩
      · exact Or.inr ⟨i, by omega, i2⟩
    · have hs : ∀ j, j < n → S j = P j := fun j hj => Classical.byContradiction fun q => hd ⟨j, hj, q⟩
      have hk : k = n := Classical.byContradiction fun q => hd ⟨k, by omega, e⟩
      subst hk
      cases h1 : S k with
      | true => cases h2 : P k with
        | true => exact absurd (h1.trans h2.symm) e
        | false => exact Or.inl ⟨k, by omega, h1, h2, hs⟩
      | false => cases h2 : P k with
        | true => exact Or.inr ⟨k, by omega, h2, h1, fun j hj => (hs j hj).symm⟩
        | false => exact absurd (h1.trans h2.symm) e
theorem lbst_un {v : Nat → Nat} {n : Nat} {S P : Nat → Bool} (h : lbst v n S) (h' : lbst v n P) : ∀ k, k < n → S k = P k := by
  intro k hk
  refine Classical.byContradiction fun e => ?_
  have a1 := h.2 P h'.1 ⟨k, hk, fun q => e q.symm⟩
  have a2 := h'.2 S h.1 ⟨k, hk, e⟩
  rcases a1 with a1 | ⟨b1, a1⟩
  · rcases a2 with a2 | ⟨a2, -⟩ <;> omega
  · rcases a2 with a2 | ⟨-, a2⟩
    · omega
    · exact llx_no a1 a2
/-- how far each reaches: one more than the farthest of those behind it that are greater -/
def lR (v : Nat → Nat) (n i : Nat) (R : Nat → Nat) : Prop := ∀ k, i ≤ k → k < n → 1 ≤ R k ∧ (R k = 1 ∨ ∃ j, k < j ∧ j < n ∧ v k < v j ∧ R k = R j + 1) ∧ ∀ j, k < j → j < n → v k < v j → R j + 1 ≤ R k
theorem lR_ch {v : Nat → Nat} {n : Nat} {R : Nat → Nat} {S : Nat → Bool} (hR : lR v n 0 R) (hS : linc v n S) : ∀ (m i b : Nat), n - i = m → i ≤ n → b < i → S b = true → lz S n + 1 ≤ lz S i + R b
  | 0, i, b, hm, hi, hb, sb => by
    have e : i = n := by omega
    subst e
    have := (hR b (by omega) hb).1
    omega
  | m + 1, i, b, hm, hi, hb, sb => by
    cases h : S i with
    | true =>
      have ih := lR_ch hR hS m (i + 1) i (by omega) (by omega) (by omega) h
      rw [lz_s, if_pos h] at ih
      have := (hR b (by omega) (by omega)).2.2 i hb (by omega) (hS b i hb (by omega) sb h)
      omega
    | false =>
      have ih := lR_ch hR hS m (i + 1) b (by omega) (by omega) (by omega) sb
      rw [lz_s, if_neg (by rw [h]; decide)] at ih
      omega
theorem lR_mx {v : Nat → Nat} {n L : Nat} {R : Nat → Nat} {S : Nat → Bool} (hR : lR v n 0 R) (hL : ∀ k, k < n → R k ≤ L) (hS : linc v n S) : ∀ (m i : Nat), n - i = m → i ≤ n → lz S n ≤ lz S i + L
  | 0, i, hm, hi => by
    have e : i = n := by omega
    subst e; omega
  | m + 1, i, hm, hi => by
    cases h : S i with
    | true =>
      have := lR_ch hR hS m (i + 1) i (by omega) (by omega) (by omega) h
      rw [lz_s, if_pos h] at this
      have := hL i (by omega)
      omega
    | false =>
      have ih := lR_mx hR hL hS m (i + 1) (by omega) (by omega)
      rw [lz_s, if_neg (by rw [h]; decide)] at ih
      omega
/-- a set with i put in -/
def bU (G : Nat → Bool) (i : Nat) : Nat → Bool := fun k => if k = i then true else G k
theorem bU_s (G : Nat → Bool) (i : Nat) : bU G i i = true := if_pos rfl
theorem bU_n (G : Nat → Bool) {i k : Nat} (h : k ≠ i) : bU G i k = G k := if_neg h
/-- where the class stands when it has looked at the first i: due still to take, lp the least place that fits, G taken -/
def lJ (v : Nat → Nat) (n : Nat) (R : Nat → Nat) (L i due lp : Nat) (G : Nat → Bool) : Prop :=
  lz G i + due = L ∧ (∀ j, i ≤ j → j < n → lp ≤ v j → R j ≤ due) ∧ (due = 0 ∨ ∃ j, i ≤ j ∧ j < n ∧ R j = due ∧ lp ≤ v j) ∧ (∀ k, k < i → G k = true → v k < lp) ∧ (lp = 0 ∨ ∃ b, b < i ∧ G b = true ∧ lp = v b + 1) ∧ linc v i G ∧ (∀ k, i ≤ k → G k = false) ∧ (∀ S, linc v n S → lz S n = L → (∀ k, k < i → S k = G k) ∨ llx i G S)
theorem lJ_0 {v : Nat → Nat} {n L : Nat} {R : Nat → Nat} (hL : ∀ k, k < n → R k ≤ L) (hA : L = 0 ∨ ∃ k, k < n ∧ R k = L) : lJ v n R L 0 L 0 (fun _ => false) := by
  refine ⟨by show 0 + L = L; omega, fun j _ hj _ => hL j hj, ?_, fun k hk => absurd hk (Nat.not_lt_zero _), Or.inl rfl, fun i j _ hj => absurd hj (Nat.not_lt_zero _), fun _ _ => rfl, fun S _ _ => Or.inl fun k hk => absurd hk (Nat.not_lt_zero _)⟩
  rcases hA with e | ⟨k, k1, k2⟩
  · exact Or.inl e
  · exact Or.inr ⟨k, Nat.zero_le _, k1, k2, Nat.zero_le _⟩
theorem lJ_y {v : Nat → Nat} {n L i due lp : Nat} {R : Nat → Nat} {G : Nat → Bool} (hR : lR v n 0 R) (h : lJ v n R L i (due + 1) lp G) (hi : i < n) (h1 : R i = due + 1) (h2 : lp ≤ v i) : lJ v n R L (i + 1) due (v i + 1) (bU G i) := by
  obtain ⟨j1, j2, j3, j4, j5, j6, j7, j8⟩ := h
  have eb : ∀ k, k < i → bU G i k = G k := fun k hk => bU_n G (by omega)
  have ez : lz (bU G i) i = lz G i := lz_congr i eb
  refine ⟨?_, fun j a1 a2 a3 => ?_, ?_, fun k a1 a2 => ?_, Or.inr ⟨i, by omega, bU_s G i, rfl⟩, fun a b a1 a2 a3 a4 => ?_, fun k a1 => ?_, fun S a1 a2 => ?_⟩
  · rw [lz_s, ez, if_pos (bU_s G i)]; omega
  · have := (hR i (by omega) hi).2.2 j (by omega) a2 (by omega); omega
  · rcases (hR i (by omega) hi).2.1 with e | ⟨j, b1, b2, b3, b4⟩
    · left; omega
    · exact Or.inr ⟨j, by omega, b2, by omega, by omega⟩
  · by_cases e : k = i
    · rw [e]; omega
    · rw [eb k (by omega)] at a2
      have := j4 k (by omega) a2; omega
  · by_cases e : b = i
    · rw [eb a (by omega)] at a3
      have := j4 a (by omega) a3
      rw [e]; omega
    · rw [eb a (by omega)] at a3
      rw [eb b (by omega)] at a4
      exact j6 a b a1 (by omega) a3 a4
  · rw [bU_n G (by omega)]; exact j7 k (by omega)
  · rcases j8 S a1 a2 with e | ⟨k, b1, b2, b3, b4⟩
    · cases hs : S i with
      | true =>
        refine Or.inl fun k hk => ?_
        by_cases e2 : k = i
        · rw [e2, hs, bU_s]
        · rw [eb k (by omega)]; exact e k (by omega)
      | false => exact Or.inr ⟨i, by omega, bU_s G i, hs, fun j hj => by rw [eb j hj]; exact (e j hj).symm⟩
    · exact Or.inr ⟨k, by omega, by rw [eb k b1]; exact b2, b3, fun j hj => by rw [eb j (by omega)]; exact b4 j hj⟩
theorem lJ_n {v : Nat → Nat} {n L i due lp : Nat} {R : Nat → Nat} {G : Nat → Bool} (hR : lR v n 0 R) (h : lJ v n R L i due lp G) (hi : i < n) (h1 : ¬ (R i = due ∧ lp ≤ v i)) : lJ v n R L (i + 1) due lp G := by
  obtain ⟨j1, j2, j3, j4, j5, j6, j7, j8⟩ := h
  have gi := j7 i (Nat.le_refl _)
  refine ⟨?_, fun j a1 a2 a3 => j2 j (by omega) a2 a3, ?_, fun k a1 a2 => ?_, ?_, fun a b a1 a2 a3 a4 => ?_, fun k a1 => j7 k (by omega), fun S a1 a2 => ?_⟩
  · rw [lz_s, if_neg (by rw [gi]; decide)]; omega
  · rcases j3 with e | ⟨j, b1, b2, b3, b4⟩
    · exact Or.inl e
    · refine Or.inr ⟨j, ?_, b2, b3, b4⟩
      by_cases e : j = i
      · rw [e] at b3 b4; exact absurd ⟨b3, b4⟩ h1
      · omega
  · by_cases e : k = i
    · rw [e, gi] at a2; cases a2
    · exact j4 k (by omega) a2
  · rcases j5 with e | ⟨b, b1, b2⟩
    · exact Or.inl e
    · exact Or.inr ⟨b, by omega, b2⟩
  · by_cases e : b = i
    · rw [e, gi] at a4; cases a4
    · exact j6 a b a1 (by omega) a3 a4
  · rcases j8 S a1 a2 with e | ⟨k, b1, b2⟩
    · cases hs : S i with
      | true =>
        exfalso
        have c1 := lR_ch hR a1 (n - (i + 1)) (i + 1) i rfl (by omega) (by omega) hs
        rw [lz_s, if_pos hs, lz_congr i e] at c1
        have c2 : lp ≤ v i := by
          rcases j5 with q | ⟨b, b1, b2, b3⟩
          · omega
          · have := a1 b i b1 hi ((e b b1).trans b2) hs; omega
        have := j2 i (Nat.le_refl _) hi c2
        exact h1 ⟨by omega, c2⟩
      | false =>
        refine Or.inl fun k hk => ?_
        by_cases e2 : k = i
        · rw [e2, hs, gi]
        · exact e k (by omega)
    · exact Or.inr ⟨k, by omega, b2⟩
theorem lJ_e {v : Nat → Nat} {n L lp due : Nat} {R : Nat → Nat} {G : Nat → Bool} (hR : lR v n 0 R) (hL : ∀ k, k < n → R k ≤ L) (h : lJ v n R L n due lp G) : lbst v n G := by
  obtain ⟨j1, j2, j3, j4, j5, j6, j7, j8⟩ := h
  have d0 : due = 0 := by
    rcases j3 with e | ⟨j, b1, b2, -⟩
    · exact e
    · omega
  refine ⟨j6, fun S hS hd => ?_⟩
  have := lR_mx hR hL hS n 0 (by omega) (Nat.zero_le _)
  have e0 : lz S 0 = 0 := rfl
  by_cases e : lz S n = L
  · right
    refine ⟨by omega, ?_⟩
    rcases j8 S hS e with q | q
    · obtain ⟨k, k1, k2⟩ := hd
      exact absurd (q k k1) k2
    · exact q
  · left; omega
/-- nothing is due any more -/
theorem lJ_z {v : Nat → Nat} {n L lp : Nat} {R : Nat → Nat} {G : Nat → Bool} (hR : lR v n 0 R) : ∀ (m i : Nat), n - i = m → i ≤ n → lJ v n R L i 0 lp G → lJ v n R L n 0 lp G
  | 0, i, hm, hi, h => by
    have e : i = n := by omega
    rw [← e]; rw [← e] at h; exact h
  | m + 1, i, hm, hi, h => lJ_z hR m (i + 1) (by omega) (by omega) (lJ_n hR h (by omega) (fun q => by have := (hR i (by omega) (by omega)).1; omega))
/-! the reference: all sets, one after another -/
/-- the set as a number -/
def mS (S : Nat → Bool) : Nat → Nat
  | 0 => 0
  | n + 1 => (if S 0 = true then 1 else 0) + 2 * mS (fun k => S (k + 1)) n
theorem mS_lt : ∀ (n : Nat) (S : Nat → Bool), mS S n < 2 ^ n
  | 0, S => by show 0 < 1; omega
  | n + 1, S => by
    have := mS_lt n (fun k => S (k + 1))
    have e : 2 ^ (n + 1) = 2 * 2 ^ n := by rw [Nat.pow_succ]; omega
    show (if S 0 = true then 1 else 0) + 2 * mS (fun k => S (k + 1)) n < 2 ^ (n + 1)
    split <;> omega
theorem mS_bit : ∀ (n : Nat) (S : Nat → Bool) (k : Nat), k < n → (mS S n).testBit k = S k
  | 0, S, k, h => absurd h (Nat.not_lt_zero _)
  | n + 1, S, 0, h => by
    show ((if S 0 = true then 1 else 0) + 2 * mS (fun k => S (k + 1)) n).testBit 0 = S 0
    rw [Nat.testBit_zero]
    cases S 0
    · rw [if_neg (by decide), decide_eq_false (by omega)]
    · rw [if_pos rfl, decide_eq_true (by omega)]
  | n + 1, S, k + 1, h => by
    show ((if S 0 = true then 1 else 0) + 2 * mS (fun k => S (k + 1)) n).testBit (k + 1) = S (k + 1)
    rw [Nat.testBit_succ, show ((if S 0 = true then 1 else 0) + 2 * mS (fun k => S (k + 1)) n) / 2 = mS (fun k => S (k + 1)) n by split <;> omega]
    exact mS_bit n _ k (by omega)
theorem bits_eq {n a b : Nat} (ha : a < 2 ^ n) (hb : b < 2 ^ n) (h : ∀ k, k < n → a.testBit k = b.testBit k) : a = b := by
  refine Nat.eq_of_testBit_eq fun k => ?_
  by_cases hk : k < n
  · exact h k hk
  · have h2 : 2 ^ n ≤ 2 ^ k := Nat.pow_le_pow_right (by decide) (by omega)
    rw [Nat.testBit_lt_two_pow (by omega), Nat.testBit_lt_two_pow (by omega)]
/-- the best of the sets below c -/
def rJ (v : Nat → Nat) (n c p : Nat) : Prop := p < 2 ^ n ∧ linc v n p.testBit ∧ ∀ S, S < c → linc v n S.testBit → S = p ∨ lz S.testBit n < lz p.testBit n ∨ (lz S.testBit n = lz p.testBit n ∧ llx n p.testBit S.testBit)
theorem lz_0 : ∀ n, lz (Nat.testBit 0) n = 0
  | 0 => rfl
  | n + 1 => by rw [lz_s, lz_0 n, Nat.zero_testBit]; rfl
theorem rJ_0 {v : Nat → Nat} {n : Nat} : rJ v n 0 0 := by
  refine ⟨Nat.two_pow_pos n, ?_, fun S h => absurd h (Nat.not_lt_zero _)⟩
  intro i j _ _ h
  rw [Nat.zero_testBit] at h
  cases h
/-- c is better -/
theorem rJ_y {v : Nat → Nat} {n c p : Nat} (h : rJ v n c p) (hc : c < 2 ^ n) (hi : linc v n c.testBit) (hb : lz p.testBit n < lz c.testBit n ∨ (lz p.testBit n = lz c.testBit n ∧ llx n c.testBit p.testBit)) : rJ v n (c + 1) c := by
  refine ⟨hc, hi, fun S hS hl => ?_⟩
  by_cases e : S = c
  · exact Or.inl e
  · right
    rcases h.2.2 S (by omega) hl with q | q | ⟨q1, q2⟩
    · rw [q]; exact hb
    · left; rcases hb with b | ⟨b, -⟩ <;> omega
    · rcases hb with b | ⟨b1, b2⟩
      · left; omega
      · exact Or.inr ⟨by omega, llx_tr b2 q2⟩
theorem rJ_n {v : Nat → Nat} {n c p : Nat} (h : rJ v n c p) (hc : c < 2 ^ n) (hb : ¬ (linc v n c.testBit ∧ (lz p.testBit n < lz c.testBit n ∨ (lz p.testBit n = lz c.testBit n ∧ llx n c.testBit p.testBit)))) : rJ v n (c + 1) p := by
  refine ⟨h.1, h.2.1, fun S hS hl => ?_⟩
  by_cases e : S = c
  · subst e
    by_cases e2 : S = p
    · exact Or.inl e2
    · right
      by_cases e3 : lz S.testBit n = lz p.testBit n
      · refine Or.inr ⟨e3, ?_⟩
        have : ∃ k, k < n ∧ S.testBit k ≠ p.testBit k := Classical.byContradiction fun q => e2 (bits_eq hc h.1 fun k hk => Classical.byContradiction fun q2 => q ⟨k, hk, q2⟩)
        rcases llx_tot n this with q | q
        · exact absurd ⟨hl, Or.inr ⟨e3.symm, q⟩⟩ hb
        · exact q
      · left
        by_cases e4 : lz p.testBit n < lz S.testBit n
        · exact absurd ⟨hl, Or.inl e4⟩ hb
        · omega
  · exact h.2.2 S (by omega) hl
theorem rJ_e {v : Nat → Nat} {n p : Nat} (h : rJ v n (2 ^ n) p) : lbst v n p.testBit := by
  refine ⟨h.2.1, fun S hS hd => ?_⟩
  have e := mS_bit n S
  have hl : linc v n (mS S n).testBit := fun i j a1 a2 a3 a4 => hS i j a1 a2 (by rw [← e i (by omega)]; exact a3) (by rw [← e j a2]; exact a4)
  have ez := lz_congr n e
  rcases h.2.2 (mS S n) (mS_lt n S) hl with q | q | ⟨q1, i, q2, q3, q4, q5⟩
  · obtain ⟨k, k1, k2⟩ := hd
    exact absurd (by rw [← q, e k k1]) k2
  · left; omega
  · exact Or.inr ⟨by omega, i, q2, q3, by rw [← e i q2]; exact q4, fun j hj => by rw [← e j (by omega)]; exact q5 j hj⟩
theorem nI_xor {a b : Nat} (ha : a < 2 ^ 31) (hb : b < 2 ^ 31) : nI a ^^^ nI b = nI (a ^^^ b) := by
  apply Int32.toBitVec_inj.mp
  apply BitVec.eq_of_toNat_eq
  rw [Int32.toBitVec_xor, BitVec.toNat_xor, pk_tn (by omega), pk_tn (by omega), pk_tn]
  exact Nat.lt_trans (Nat.xor_lt_two_pow ha hb) (by decide)
theorem nI_and {a b : Nat} (ha : a < 2 ^ 31) (hb : b < 2 ^ 31) : nI a &&& nI b = nI (a &&& b) := by
  apply Int32.toBitVec_inj.mp
  apply BitVec.eq_of_toNat_eq
  rw [Int32.toBitVec_and, BitVec.toNat_and, pk_tn (by omega), pk_tn (by omega), pk_tn]
  exact Nat.lt_trans (Nat.and_lt_two_pow _ hb) (by decide)
theorem and_pow (n i : Nat) : n &&& 2 ^ i = (n.testBit i).toNat * 2 ^ i := by
  refine Nat.eq_of_testBit_eq fun k => ?_
  rw [Nat.testBit_and, Nat.testBit_two_pow]
  cases h : n.testBit i with
  | true =>
    rw [Bool.toNat_true, Nat.one_mul, Nat.testBit_two_pow]
    by_cases e : i = k
    · rw [← e, h]; rfl
    · rw [decide_eq_false e, Bool.and_false]
  | false =>
    rw [Bool.toNat_false, Nat.zero_mul, Nat.zero_testBit]
    by_cases e : i = k
    · rw [← e, h]; rfl
    · rw [decide_eq_false e, Bool.and_false]
def lowI (o : Nat) : Nat → Nat → Nat
  | 0, i => i
  | m + 1, i => if o.testBit i = true then i else lowI o m (i + 1)
theorem lowI_ok (o : Nat) : ∀ (m i : Nat), (∀ j, j < i → o.testBit j = false) → (∃ k, k < i + m ∧ o.testBit k = true) → lowI o m i < i + m ∧ o.testBit (lowI o m i) = true ∧ ∀ j, j < lowI o m i → o.testBit j = false
  | 0, i, h, ⟨k, k1, k2⟩ => by rw [h k (by omega)] at k2; cases k2
  | m + 1, i, h, ⟨k, k1, k2⟩ => by
    unfold lowI
    cases e : o.testBit i with
    | true => rw [if_pos rfl]; exact ⟨by omega, e, h⟩
    | false =>
      rw [if_neg (by decide)]
      have h' : ∀ j, j < i + 1 → o.testBit j = false := fun j hj => by
        by_cases q : j = i
        · rw [q]; exact e
        · exact h j (by omega)
      have := lowI_ok o m (i + 1) h' ⟨k, by omega, k2⟩
      exact ⟨by omega, this.2⟩
theorem lowI_k : ∀ a b : Fin 64, a.val + b.val = 0 ∨ nI (64 * a.val + b.val) &&& -(nI (64 * a.val + b.val)) = nI (2 ^ lowI (64 * a.val + b.val) 12 0) := by decide +kernel
theorem low_bit {o : Nat} (h : o < 4096) (h0 : o ≠ 0) : nI o &&& -(nI o) = nI (2 ^ lowI o 12 0) := by
  rcases lowI_k ⟨o / 64, by omega⟩ ⟨o % 64, by omega⟩ with q | q
  · have : o / 64 + o % 64 = 0 := q
    omega
  · have e : 64 * (o / 64) + o % 64 = o := by omega
    dsimp only at q
    rw [e] at q
    exact q
/-- the test of the reference: has c the first in which they differ -/
theorem low_tst {n c p : Nat} (hn : n ≤ 12) (hc : c < 2 ^ n) (hp : p < 2 ^ n) : (nI c &&& (nI c ^^^ nI p)) &&& -(nI c ^^^ nI p) = 0 ↔ ¬ llx n c.testBit p.testBit := by
  have hn2 : 2 ^ n ≤ 2 ^ 12 := Nat.pow_le_pow_right (by decide) hn
  have hx : c ^^^ p < 2 ^ n := Nat.xor_lt_two_pow hc hp
  rw [nI_xor (by omega) (by omega), Int32.and_assoc]
  by_cases h0 : c ^^^ p = 0
  · rw [h0]
    have : nI 0 &&& -(nI 0) = 0 := by decide
    rw [this]
    refine ⟨fun _ => ?_, fun _ => Int32.and_zero⟩
    rintro ⟨i, i1, i2, i3, -⟩
    have := congrArg (fun z => z.testBit i) h0
    simp only [Nat.testBit_xor, i2, i3, Nat.zero_testBit] at this
    cases this
  · have hex : ∃ k, k < 0 + 12 ∧ (c ^^^ p).testBit k = true := Classical.byContradiction fun q => h0 (Nat.eq_of_testBit_eq fun k => by
      rw [Nat.zero_testBit]
      by_cases hk : k < 12
      · cases e : (c ^^^ p).testBit k with
        | true => exact absurd ⟨k, by omega, e⟩ q
        | false => rfl
      · have h2 : 2 ^ 12 ≤ 2 ^ k := Nat.pow_le_pow_right (by decide) (by omega)
        exact Nat.testBit_lt_two_pow (by omega))
    obtain ⟨l1, l2, l3⟩ := lowI_ok (c ^^^ p) 12 0 (fun j hj => absurd hj (Nat.not_lt_zero _)) hex
    rw [low_bit (by omega) h0]
    generalize lowI (c ^^^ p) 12 0 = i at l1 l2 l3
    have h2i : 2 ^ i < 2 ^ 12 := Nat.pow_lt_pow_right (by decide) (by omega)
    rw [nI_and (by omega) (by omega), and_pow]
    have ll : ∀ j, j < i → c.testBit j = p.testBit j := fun j hj => by
      have := l3 j hj
      rw [Nat.testBit_xor] at this
      cases h1 : c.testBit j <;> cases h2 : p.testBit j <;> simp [h1, h2] at this ⊢
    rw [Nat.testBit_xor] at l2
    have hin : i < n := Classical.byContradiction fun q => by
      have h3 : 2 ^ n ≤ 2 ^ i := Nat.pow_le_pow_right (by decide) (by omega)
      rw [Nat.testBit_lt_two_pow (show c < 2 ^ i by omega), Nat.testBit_lt_two_pow (show p < 2 ^ i by omega)] at l2
      cases l2
    cases h1 : c.testBit i with
    | true =>
      have h2 : p.testBit i = false := by
        cases h2 : p.testBit i with
        | true => rw [h1, h2] at l2; cases l2
        | false => rfl
      refine ⟨fun q => ?_, fun q => absurd ⟨i, hin, h1, h2, ll⟩ q⟩
      exfalso
      have := congrArg Int32.toInt q
      have hp := Nat.two_pow_pos i
      rw [Bool.toNat_true, Nat.one_mul, nI_toInt (by omega)] at this
      have h00 : (0 : Int32).toInt = 0 := rfl
      omega
    | false =>
      refine ⟨fun _ => ?_, fun _ => by rw [Bool.toNat_false, Nat.zero_mul]; rfl⟩
      rintro ⟨k, k1, k2, k3, k4⟩
      have h2 : p.testBit i = true := by
        cases h2 : p.testBit i with
        | true => rfl
        | false => rw [h1, h2] at l2; cases l2
      rcases Nat.lt_trichotomy i k with e | e | e
      · have := k4 i e; rw [h1, h2] at this; cases this
      · subst e; rw [h1] at k2; cases k2
      · have := ll k e; rw [k2, k3] at this; cases this
/-- what a set that is not ordered counts to -/
def i20 (j : Nat) : Int32 := nI j - 20
theorem i20_k : ∀ j : Fin 13, i20 j.val + 1 = i20 (j.val + 1) ∧ i20 j.val < 0 ∧ i20 0 = -20 := by decide
/-! rows of children, and who of them stays -/
theorem lz_mono (K : Nat → Bool) {m n : Nat} (h : m ≤ n) : lz K m ≤ lz K n := by
  induction n with
  | zero => rw [Nat.le_zero.mp h]; exact Nat.le_refl _
  | succ n ih =>
    by_cases e : m = n + 1
    · rw [e]; exact Nat.le_refl _
    · have := ih (by omega)
      rw [lz_s]; omega
theorem lz_lt {K : Nat → Bool} {m n : Nat} (h : m < n) (e : K m = true) : lz K m < lz K n := by
  have h1 : lz K (m + 1) = lz K m + 1 := by rw [lz_s, if_pos e]
  have h2 := lz_mono K (show m + 1 ≤ n from h)
  omega
/-- the k-th of those below n that are in K -/
def nth (K : Nat → Bool) : Nat → Nat → Nat
  | 0, _ => 0
  | n + 1, k => if K n = true ∧ lz K n = k then n else nth K n k
theorem nth_ok (K : Nat → Bool) {k : Nat} : ∀ {n : Nat}, k < lz K n → nth K n k < n ∧ K (nth K n k) = true ∧ lz K (nth K n k) = k
  | 0, h => absurd h (Nat.not_lt_zero _)
  | n + 1, h => by
    unfold nth
    by_cases e : K n = true ∧ lz K n = k
    · rw [if_pos e]; exact ⟨by omega, e.1, e.2⟩
    · rw [if_neg e]
      have : k < lz K n := by
        rw [lz_s] at h
        by_cases e1 : K n = true
        · rw [if_pos e1] at h
          have : ¬ lz K n = k := fun q => e ⟨e1, q⟩
          omega
        · rw [if_neg e1] at h; omega
      have := nth_ok K this
      exact ⟨by omega, this.2⟩
theorem nth_at {K : Nat → Bool} {x n : Nat} (h : x < n) (e : K x = true) : nth K n (lz K x) = x := by
  obtain ⟨h1, h2, h3⟩ := nth_ok K (lz_lt h e)
  generalize nth K n (lz K x) = z at h1 h2 h3
  rcases Nat.lt_trichotomy z x with q | q | q
  · have := lz_lt q h2; omega
  · exact q
  · have := lz_lt q e; omega
def kO (w : Tr) (B : Int32) : Option Nat → Bool
  | none => false
  | some y => decide (w.2.1 y = B)
theorem kO_n (w : Tr) (B : Int32) : kO w B none = false := rfl
theorem kO_s (w : Tr) (B : Int32) (y : Nat) : kO w B (some y) = decide (w.2.1 y = B) := rfl
/-- x is a child of A, its partner one of B -/
def kn (t w : Tr) (M : Pr) (A B : Int32) (x : Nat) : Bool := decide (t.2.1 x = A) && kO w B (M.1 x)
theorem kn_iff {t w : Tr} {M : Pr} {A B : Int32} {x : Nat} : kn t w M A B x = true ↔ t.2.1 x = A ∧ ∃ y, M.1 x = some y ∧ w.2.1 y = B := by
  unfold kn
  rw [Bool.and_eq_true, decide_eq_true_iff]
  cases h : M.1 x with
  | none => exact ⟨fun q => absurd q.2 (by rw [kO_n]; decide), fun ⟨_, y, q, _⟩ => by cases q⟩
  | some y => rw [kO_s, decide_eq_true_iff]; exact ⟨fun q => ⟨q.1, y, rfl, q.2⟩, fun ⟨q, y', e, q2⟩ => ⟨q, by cases e; exact q2⟩⟩
/-- the partners of those in the row -/
def vM (t w : Tr) (M : Pr) (A B : Int32) (k : Nat) : Nat := (M.1 (nth (kn t w M A B) t.1 k)).getD 0
/-- who of a row stays -/
def rwS (t w : Tr) (M : Pr) (A B : Int32) (X : Nat → Bool) : Prop := ∃ S, lbst (vM t w M A B) (lz (kn t w M A B) t.1) S ∧ ∀ x, x < t.1 → kn t w M A B x = true → X x = S (lz (kn t w M A B) x)
/-- who stays, the rows of the first i seen to -/
def sT (t w : Tr) (M : Pr) (i : Nat) (X : Nat → Bool) : Prop := rwS t w M (-1) (-1) X ∧ (∀ a y, a < i → M.1 a = some y → rwS t w M (nI a) (nI y) X) ∧ ∀ x, x < t.1 → X x = true → kn t w M (-1) (-1) x = true ∨ ∃ a y, a < i ∧ M.1 a = some y ∧ kn t w M (nI a) (nI y) x = true
theorem rwS_un {t w : Tr} {M : Pr} {A B : Int32} {X Y : Nat → Bool} (h : rwS t w M A B X) (h' : rwS t w M A B Y) {x : Nat} (hx : x < t.1) (hk : kn t w M A B x = true) : X x = Y x := by
  obtain ⟨S, s1, s2⟩ := h
  obtain ⟨P, p1, p2⟩ := h'
  rw [s2 x hx hk, p2 x hx hk]
  exact lbst_un s1 p1 _ (lz_lt hx hk)
theorem sT_un {t w : Tr} {M : Pr} {X Y : Nat → Bool} (hx : sT t w M t.1 X) (hy : sT t w M t.1 Y) : ∀ x, x < t.1 → X x = Y x := by
  have go : ∀ {X Y : Nat → Bool}, sT t w M t.1 X → sT t w M t.1 Y → ∀ x, x < t.1 → X x = true → Y x = true := by
    intro X Y hx hy x h e
    rcases hx.2.2 x h e with q | ⟨a, y, q1, q2, q3⟩
    · rw [← rwS_un hx.1 hy.1 h q]; exact e
    · rw [← rwS_un (hx.2.1 a y q1 q2) (hy.2.1 a y q1 q2) h q3]; exact e
  intro x h
  cases e : X x with
  | true => exact (go hx hy x h e).symm
  | false => cases e2 : Y x with
    | true => rw [go hy hx x h e2] at e; cases e
    | false => rfl
/-- one more row -/
def xU (t w : Tr) (M : Pr) (A B : Int32) (S X : Nat → Bool) (x : Nat) : Bool := if kn t w M A B x = true then S (lz (kn t w M A B) x) else X x
theorem rwS_o {t w : Tr} {M : Pr} {A B A' B' : Int32} {S X : Nat → Bool} (h : rwS t w M A' B' X) (hn : A' ≠ A) : rwS t w M A' B' (xU t w M A B S X) := by
  obtain ⟨P, p1, p2⟩ := h
  refine ⟨P, p1, fun x hx hk => ?_⟩
  unfold xU
  rw [if_neg]
  · exact p2 x hx hk
  · intro q
    exact hn ((kn_iff.mp hk).1.symm.trans (kn_iff.mp q).1)
theorem rwS_i {t w : Tr} {M : Pr} {A B : Int32} {S X : Nat → Bool} (h : lbst (vM t w M A B) (lz (kn t w M A B) t.1) S) : rwS t w M A B (xU t w M A B S X) := by
  refine ⟨S, h, fun x hx hk => ?_⟩
  unfold xU
  rw [if_pos hk]
theorem sT_0 {t w : Tr} {M : Pr} {S : Nat → Bool} (h : lbst (vM t w M (-1) (-1)) (lz (kn t w M (-1) (-1)) t.1) S) : sT t w M 0 (xU t w M (-1) (-1) S (fun _ => false)) := by
  refine ⟨rwS_i h, fun a y q => absurd q (Nat.not_lt_zero _), fun x hx e => Or.inl ?_⟩
  unfold xU at e
  by_cases q : kn t w M (-1) (-1) x = true
  · exact q
  · rw [if_neg q] at e; cases e
theorem sT_n {t w : Tr} {M : Pr} {i : Nat} {X : Nat → Bool} (h : sT t w M i X) (hn : M.1 i = none) : sT t w M (i + 1) X := by
  refine ⟨h.1, fun a y ha e => h.2.1 a y ?_ e, fun x hx e => ?_⟩
  · by_cases q : a = i
    · rw [q, hn] at e; cases e
    · omega
  · rcases h.2.2 x hx e with q | ⟨a, y, q1, q2⟩
    · exact Or.inl q
    · exact Or.inr ⟨a, y, by omega, q2⟩
theorem sT_s {t w : Tr} {M : Pr} {i y : Nat} {X S : Nat → Bool} (h : sT t w M i X) (hi : i < 12) (hy : M.1 i = some y) (hS : lbst (vM t w M (nI i) (nI y)) (lz (kn t w M (nI i) (nI y)) t.1) S) : sT t w M (i + 1) (xU t w M (nI i) (nI y) S X) := by
  refine ⟨rwS_o h.1 (fun q => nI_m1 i (by omega) q.symm), fun a z ha e => ?_, fun x hx e => ?_⟩
  · by_cases q : a = i
    · subst q
      rw [hy] at e; cases e
      exact rwS_i hS
    · exact rwS_o (h.2.1 a z (by omega) e) (fun q2 => q ((nI_eq (by omega) (by omega)).mp q2))
  · unfold xU at e
    by_cases q : kn t w M (nI i) (nI y) x = true
    · exact Or.inr ⟨i, y, by omega, hy, q⟩
    · rw [if_neg q] at e
      rcases h.2.2 x hx e with q | ⟨a, z, q1, q2⟩
      · exact Or.inl q
      · exact Or.inr ⟨a, z, by omega, q2⟩
/-- before a row is seen to, none of it stays -/
theorem sT_f {t w : Tr} {M : Pr} {i y x : Nat} {X : Nat → Bool} (h : sT t w M i X) (hi : i < 12) (hx : x < t.1) (hk : kn t w M (nI i) (nI y) x = true) : X x = false := by
  cases e : X x with
  | false => rfl
  | true =>
    exfalso
    have k1 := (kn_iff.mp hk).1
    rcases h.2.2 x hx e with q | ⟨a, z, q1, -, q2⟩
    · exact nI_m1 i (by omega) (k1.symm.trans (kn_iff.mp q).1)
    · have := (nI_eq (a := i) (b := a) (by omega) (by omega)).mp (k1.symm.trans (kn_iff.mp q2).1)
      omega
theorem lbst_congr {v p : Nat → Nat} {n : Nat} {S : Nat → Bool} (h : ∀ i j, i < n → j < n → (p i < p j ↔ v i < v j)) (hb : lbst p n S) : lbst v n S := by
  have e : ∀ S, linc v n S ↔ linc p n S := fun S => ⟨fun q i j a1 a2 a3 a4 => (h i j (by omega) a2).mpr (q i j a1 a2 a3 a4), fun q i j a1 a2 a3 a4 => (h i j (by omega) a2).mp (q i j a1 a2 a3 a4)⟩
  exact ⟨(e S).mpr hb.1, fun S' hS hd => hb.2 S' ((e S').mp hS) hd⟩
/-- the place of a node among its parent's children -/
def pl (w : Tr) (y : Nat) : Nat := cnt w.2.1 (w.2.1 y) y
theorem pl_lt {w : Tr} {y z : Nat} (h : w.2.1 y = w.2.1 z) : pl w y < pl w z ↔ y < z := by
  unfold pl
  rw [h]
  constructor
  · intro q
    refine Classical.byContradiction fun e => ?_
    have := cnt_mono w.2.1 (w.2.1 z) (show z ≤ y by omega)
    omega
  · exact fun q => cnt_lt q h
/-- the places of the partners of those in the row -/
def pM' (t w : Tr) (M : Pr) (A B : Int32) (k : Nat) : Nat := pl w (vM t w M A B k)
theorem lbst_pl {t w : Tr} {M : Pr} {A B : Int32} {S : Nat → Bool} (h : lbst (pM' t w M A B) (lz (kn t w M A B) t.1) S) : lbst (vM t w M A B) (lz (kn t w M A B) t.1) S := by
  refine lbst_congr (fun i j hi hj => ?_) h
  refine pl_lt ?_
  obtain ⟨-, a1, -⟩ := nth_ok _ hi
  obtain ⟨-, b1, -⟩ := nth_ok _ hj
  obtain ⟨-, y, a2, a3⟩ := kn_iff.mp a1
  obtain ⟨-, z, b2, b3⟩ := kn_iff.mp b1
  unfold vM
  rw [a2, b2]
  exact a3.trans b3.symm
