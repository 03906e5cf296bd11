/-! Heights: by one pass down the numbers, and by climbing -/
/-- the parent of a node, always a lesser number -/
def pm (t : Tr) (v : Nat) : Nat := min (t.2.1 v).toNatClampNeg (v - 1)
theorem pm_lt (t : Tr) {v : Nat} (h : 0 < v) : pm t v < v := by unfold pm; omega
theorem pm_eq {t : Tr} (hw : tW t) {v : Nat} (h0 : 0 < v) (hv : v < t.1) : t.2.1 v = nI (pm t v) := by
  rcases hw.2 v hv with ⟨e, -⟩ | ⟨m, hm, e⟩
  · omega
  · have h12 := hw.1
    have e2 : pm t v = m := by
      unfold pm
      rw [e, nI_clamp (by omega)]
      omega
    rw [e2]; exact e
/-- how far n is above v -/
def lev (t : Tr) (n v : Nat) : Option Nat := if v = n then some 0 else if h : v ≤ n then none else (lev t n (pm t v)).map (fun k => k + 1)
termination_by v
decreasing_by exact pm_lt t (by omega)
theorem lev_self (t : Tr) (n : Nat) : lev t n n = some 0 := by rw [lev, if_pos rfl]
theorem lev_lt (t : Tr) {n v : Nat} (h : v < n) : lev t n v = none := by rw [lev, if_neg (by omega), dif_pos (by omega)]
theorem lev_gt (t : Tr) {n v : Nat} (h : n < v) : lev t n v = (lev t n (pm t v)).map (fun k => k + 1) := by rw [lev, if_neg (by omega), dif_neg (by omega)]
/-- what the heights are: each is 1, or one more than a child's, and more than every child's -/
def hP (t : Tr) (H : Nat → Nat) : Prop := (∀ n, 1 ≤ H n) ∧ (∀ v, 0 < v → v < t.1 → H v + 1 ≤ H (pm t v)) ∧ (∀ n, H n = 1 ∨ ∃ c, n < c ∧ c < t.1 ∧ pm t c = n ∧ H n = H c + 1) ∧ ∀ n, n < t.1 → H n + n ≤ t.1
theorem hP_lev {t : Tr} {H : Nat → Nat} (h : hP t H) {n : Nat} : ∀ (v k : Nat), v < t.1 → lev t n v = some k → H v + k ≤ H n := by
  intro v
  induction v using Nat.strongRecOn with
  | ind v ih =>
    intro k hv hk
    by_cases e : v = n
    · rw [e, lev_self] at hk
      cases hk
      rw [e]; exact Nat.le_refl _
    · by_cases e2 : v < n
      · rw [lev_lt t e2] at hk; cases hk
      · rw [lev_gt t (by omega)] at hk
        obtain ⟨k', h1, rfl⟩ := Option.map_eq_some_iff.mp hk
        have hp := pm_lt t (show 0 < v by omega)
        have := ih _ hp k' (by omega) h1
        have := h.2.1 v (by omega) hv
        omega
theorem lev_up {t : Tr} {c n : Nat} (hc : n < c) (hp : pm t c = n) : ∀ (v k : Nat), lev t c v = some k → lev t n v = some (k + 1) := by
  intro v
  induction v using Nat.strongRecOn with
  | ind v ih =>
    intro k hk
    by_cases e : v = c
    · rw [e, lev_self] at hk
      cases hk
      rw [e, lev_gt t hc, hp, lev_self]; rfl
    · by_cases e2 : v < c
      · rw [lev_lt t e2] at hk; cases hk
      · rw [lev_gt t (by omega)] at hk
        obtain ⟨k', h1, rfl⟩ := Option.map_eq_some_iff.mp hk
        rw [lev_gt t (by omega), ih _ (pm_lt t (by omega)) k' h1]; rfl
theorem hP_att {t : Tr} {H : Nat → Nat} (h : hP t H) : ∀ (m n : Nat), t.1 - n ≤ m → n < t.1 → ∃ v, n ≤ v ∧ v < t.1 ∧ lev t n v = some (H n - 1)
  | 0, n, hm, hn => by omega
  | m + 1, n, hm, hn => by
    rcases h.2.2.1 n with e | ⟨c, h1, h2, h3, h4⟩
    · exact ⟨n, Nat.le_refl _, hn, by rw [lev_self, e]⟩
    · obtain ⟨v, g1, g2, g3⟩ := hP_att h m c (by omega) h2
      refine ⟨v, by omega, g2, ?_⟩
      have := lev_up h1 h3 v _ g3
      have := h.1 c
      rw [‹lev t n v = some (H c - 1 + 1)›]
      congr 1
      omega
section
variable {L : Nat} {xs : Nat → Int32} {d : Nat} {s : St} {Q : Option Value → am_S → Prop}
/-- an array of twelve with these numbers in it -/
def nA (H : Nat → Nat) (g : Nat → Int32) : Nat → Int32 := fun n => if n < 12 then nI (H n) else g n
def uN (H : Nat → Nat) (k x : Nat) : Nat → Nat := fun n => if n = k then x else H n
theorem nA_upd (H : Nat → Nat) (g : Nat → Int32) {k : Nat} (hk : k < 12) (x : Nat) : upd (nA H g) k (nI x) = nA (uN H k x) g := by
  funext n
  unfold upd nA uN
  by_cases e : n = k
  · rw [if_pos e, if_pos (by omega), if_pos e]
  · rw [if_neg e]
    by_cases e2 : n < 12
    · rw [if_pos e2, if_pos e2, if_neg e]
    · rw [if_neg e2, if_neg e2]
theorem nA_at (H : Nat → Nat) (g : Nat → Int32) {k : Nat} (hk : k < 12) : nA H g k = nI (H k) := if_pos hk
theorem nA_fil (v : Nat) (g : Nat → Int32) : fil 12 (nI v) g = nA (fun _ => v) g := rfl
theorem c_mh_loop {p q : Nat} {t : Tr} (hF : isF p 12) (hc : cT s p t) (hw : tW t) (hq : in_sk[q]? = some (.inl (0, 12))) (hqp : q ≠ p + 1) : ∀ (m : Nat) (H : Nat → Nat), m < t.1 ∨ (m = 0 ∧ t.1 = 0) →
    (∀ n, 1 ≤ H n) → (∀ v, m < v → v < t.1 → H v + 1 ≤ H (pm t v)) → (∀ n, H n = 1 ∨ ∃ c, n < c ∧ c < t.1 ∧ m < c ∧ pm t c = n ∧ H n = H c + 1) → (∀ n, n < t.1 → H n + n ≤ t.1) →
    ∃ H' : Nat → Nat, hP t H' ∧ ∀ Q : Option Value → am_S → Prop, am_Rn L xs (d + 1) 18 12 [.ref p, .ref q, .int (nI m)] [] (mk (va_up s.1 q (nA H (s.1 q)), s.2)) Q = Q none (mk (va_up s.1 q (nA H' (s.1 q)), s.2))
  | 0, H, hm, i1, i2, i3, i4 => by
    refine ⟨H, ⟨i1, i2, fun n => ?_, i4⟩, fun Q => ?_⟩
    · rcases i3 n with e | ⟨c, h1, h2, -, h3⟩
      · exact Or.inl e
      · exact Or.inr ⟨c, h1, h2, h3⟩
    · have h0 : nI 0 ≤ 0 := by decide
      simp only [r18_12, r18_13, r18_46, am_li0, am_liS, h0, if_true]
  | m + 1, H, hm, i1, i2, i3, i4 => by
    have hm : m + 1 < t.1 := by omega
    have h12 := hw.1
    have hpl := pm_lt t (show 0 < m + 1 by omega)
    have hpe := pm_eq hw (show 0 < m + 1 by omega) hm
    generalize hpk : pm t (m + 1) = k at hpl hpe
    have b1 := i4 (m + 1) hm
    have b2 := i4 k (by omega)
    have hmx : (if nI (H k) < nI (H (m + 1) + 1) then nI (H (m + 1) + 1) else nI (H k)) = nI (max (H k) (H (m + 1) + 1)) := by
      by_cases hcc : H k < H (m + 1) + 1
      · rw [if_pos (nI_lt hcc (by omega)), Nat.max_eq_right (by omega)]
      · rw [if_neg (nI_nlt (by omega) (by omega)), Nat.max_eq_left (by omega)]
    obtain ⟨H', hH', hr⟩ := c_mh_loop hF hc hw hq hqp m (uN H k (max (H k) (H (m + 1) + 1))) (Or.inl (by omega)) (fun n => by
        unfold uN; split
        · have := i1 k; omega
        · exact i1 n) (fun v h1 h2 => by
        have e1 : uN H k (max (H k) (H (m + 1) + 1)) v = H v := by unfold uN; rw [if_neg (by omega)]
        rw [e1]
        by_cases e : v = m + 1
        · rw [e, hpk]
          unfold uN; rw [if_pos rfl]; omega
        · have := i2 v (by omega) h2
          unfold uN
          split
          next e3 => rw [e3] at this; omega
          next => exact this) (fun n => by
        by_cases e : n = k
        · by_cases e2 : H k ≤ H (m + 1)
          · refine Or.inr ⟨m + 1, by omega, hm, by omega, by rw [hpk]; exact e.symm, ?_⟩
            unfold uN
            rw [if_pos e, if_neg (by omega)]; omega
          · rcases i3 k with g | ⟨c, g1, g2, g3, g4, g5⟩
            · have := i1 (m + 1); omega
            · refine Or.inr ⟨c, by omega, g2, by omega, by rw [e]; exact g4, ?_⟩
              unfold uN
              rw [if_pos e, if_neg (by omega)]; omega
        · rcases i3 n with g | ⟨c, g1, g2, g3, g4, g5⟩
          · refine Or.inl ?_
            unfold uN; rw [if_neg e]; exact g
          · refine Or.inr ⟨c, g1, g2, by omega, g4, ?_⟩
            unfold uN
            rw [if_neg e, if_neg (by omega)]; exact g5) (fun n hn => by
        unfold uN; split
        next e => rw [e]; omega
        next => exact i4 n hn)
    refine ⟨H', hH', fun Q => ?_⟩
    rw [← hr Q]
    have h0 : ¬ nI (m + 1) ≤ 0 := nI_nle (by omega) (by omega)
    have h1 : am_in (nI (m + 1)) 12 = true := in_of (by omega) (by decide)
    have h2 : (nI (m + 1)).toNatClampNeg = m + 1 := nI_clamp (by omega)
    have h3 : am_in (nI k) 12 = true := in_of (by omega) (by decide)
    have h4 : (nI k).toNatClampNeg = k := nI_clamp (by omega)
    have h5 : ∀ g : Nat → Int32, va_up s.1 q g (p + 1) = s.1 (p + 1) := fun g => up_ne _ _ (Ne.symm hqp)
    have h6 : s.1 (p + 1) (m + 1) = nI k := (hc.2.1 (m + 1) hm).1.trans hpe
    have hw' : ∀ (S : St) (x i : Int32) (f : am_S → Prop), am_wi 0 (mk S) q i x f = (am_in i 12 = true ∧ f (mk (va_up S.1 q (upd (S.1 q) i.toNatClampNeg x), S.2))) := fun S x i f => am_k_wi (sk := in_sk) hq
    have hr' : ∀ (S : St) (i : Int32) (f : Int32 → Prop), am_ai 0 (mk S) q i f = (am_in i 12 = true ∧ f (S.1 q i.toNatClampNeg)) := fun S i f => am_k_ai (sk := in_sk) hq
    have e9 : nI (m + 1) + -1 = nI m := pk_m1 m
    rw [r18_12]
    simp only [r18_13, r18_16, r18_17, r18_18, r18_21, r18_22, r18_23, r18_24, r18_25, r18_28, r18_29, r18_30, r18_31, r18_32, r18_33, r18_34, r18_35, r18_36, r18_39, r18_40, r18_43, am_li0, am_liS, am_laR0, am_laS, f_par hF, fa_par hF, hr', hw', h0, h1, h2, h3, h4, h5, h6, up_same, up_up, nA_at H (s.1 q) (show m + 1 < 12 by omega), nA_at H (s.1 q) (show k < 12 by omega), nI_1, hmx, nA_upd H (s.1 q) (show k < 12 by omega), e9, if_false, List.length_cons, List.length_nil, List.set_cons_succ, List.set_cons_zero, Nat.reduceAdd, Nat.reduceLeDiff, true_and]
theorem c_mh {p q : Nat} {t : Tr} (hF : isF p 12) (hc : cT s p t) (hw : tW t) (h0 : 0 < t.1) (hq : in_sk[q]? = some (.inl (0, 12))) (hqp : q ≠ p + 1) (hqu : q ≠ p) :
    ∃ H : Nat → Nat, hP t H ∧ ∀ Q : Option Value → am_S → Prop, am_Call L xs (d + 1) 18 [.ref p, .ref q] (mk s) Q = Q none (mk (va_up s.1 q (nA H (s.1 q)), s.2)) := by
  have h12 := hw.1
  obtain ⟨H, h1, h2⟩ := c_mh_loop (L := L) (xs := xs) (d := d) hF hc hw hq hqp (t.1 - 1) (fun _ => 1) (Or.inl (by omega)) (fun _ => Nat.le_refl _) (fun v g1 g2 => by omega) (fun _ => Or.inl rfl) (fun n hn => by omega)
  refine ⟨H, h1, fun Q => ?_⟩
  rw [← h2 Q]
  have e1 : nI t.1 - 1 = nI (t.1 - 1) := by
    have : t.1 = (t.1 - 1) + 1 := by omega
    rw [this, nI_pred]; rfl
  have e2 : fil 12 1 (s.1 q) = nA (fun _ => 1) (s.1 q) := nA_fil 1 _
  simp only [e18, r18_0, r18_1, r18_2, r18_5, r18_6, r18_9, r18_10, r18_11, am_laR0, am_laS, am_liS, am_li0, a_fill hq (by decide), am_tN, f_used hF, hc.1, e1, e2, am_okI, am_okR, List.length_cons, List.length_nil, List.set_cons_succ, List.set_cons_zero, Nat.reduceAdd, Nat.reduceLT, Nat.zero_le, and_true, true_and]
end
