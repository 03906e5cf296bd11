/-! Partners and owners are each other's -/
theorem pJ_I {M : Pr} (h : mI M) {x y : Nat} (hx : M.1 x = none) (hy : M.2 y = none) : mI (pJ M x y) := by
  intro a b
  show (if a = x then some y else M.1 a) = some b ↔ (if b = y then some x else M.2 b) = some a
  by_cases e1 : a = x
  · by_cases e2 : b = y
    · rw [if_pos e1, if_pos e2, e1, e2]; exact ⟨fun _ => rfl, fun _ => rfl⟩
    · rw [if_pos e1, if_neg e2, e1]
      refine ⟨fun q => absurd (Option.some.inj q).symm e2, fun q => ?_⟩
      rw [(h x b).mpr q] at hx; cases hx
  · by_cases e2 : b = y
    · rw [if_neg e1, if_pos e2, e2]
      refine ⟨fun q => ?_, fun q => absurd (Option.some.inj q).symm e1⟩
      rw [(h a y).mp q] at hy; cases hy
    · rw [if_neg e1, if_neg e2]; exact h a b
theorem ffF_f {t w : Tr} {M : Pr} {b : Bool} {c y : Nat} : ∀ {m e v : Nat}, ffF t w M b c y m e = some v → M.2 v = none
  | 0, e, v, h => by cases h
  | m + 1, e, v, h => by
    rw [ffF_s] at h
    by_cases q : ffP t w M b c y e = true
    · rw [if_pos q] at h; cases h
      unfold ffP at q
      rw [Bool.and_eq_true, Bool.and_eq_true, Bool.and_eq_true] at q
      exact Option.isNone_iff_eq_none.mp q.1.1.2
    · rw [if_neg q] at h; exact ffF_f h
theorem prS_I {t w : Tr} {b : Bool} {x y c : Nat} {M : Pr} (h : mI M) : mI (prS t w b x y c M) := by
  unfold prS
  by_cases q : t.2.1 c = nI x ∧ M.1 c = none
  · rw [if_pos q]
    cases e : ffF t w M b c y (w.1 - (y + 1)) (y + 1) with
    | none => exact h
    | some v => exact pJ_I h q.2 (ffF_f e)
  · rw [if_neg q]; exact h
theorem prF_I {t w : Tr} {b : Bool} {x y : Nat} : ∀ (m c : Nat) (M : Pr), mI M → mI (prF t w b x y m c M)
  | 0, _, _, h => h
  | m + 1, c, M, h => by rw [prF_s]; exact prF_I m (c + 1) _ (prS_I h)
theorem lkF_f {t w : Tr} {M : Pr} {x : Nat} : ∀ (m y : Nat) (A : Lk), (∀ v, A.1 = some v → M.2 v = none) → ∀ v, (lkF t w M x m y A).1 = some v → M.2 v = none
  | 0, _, _, h => h
  | m + 1, y, A, h => by
    rw [lkF_s]
    refine lkF_f m (y + 1) _ fun v hv => ?_
    by_cases q : lkP t w M x A y
    · rw [lk1_y q] at hv; cases hv; exact q.1
    · rw [lk1_n q] at hv; exact h v hv
theorem prA_I {t w : Tr} {x y : Nat} {M : Pr} (h : mI M) : mI (prA t w x y M) := by
  unfold prA
  exact prF_I _ _ _ (prF_I _ _ _ h)
theorem jbF_I {t w : Tr} : ∀ (m : Nat) (M : Pr), mI M → mI (jbF t w m M)
  | 0, _, h => h
  | m + 1, M, h => by
    rw [jbF_s]
    refine jbF_I m _ ?_
    unfold jbS
    by_cases q : M.1 m = none
    · rw [if_pos q]
      cases e : lkA t w M m with
      | none => exact h
      | some v => exact prA_I (pJ_I h q (lkF_f w.1 0 (none, 0, 1) (fun v hv => by cases hv) v e))
    · rw [if_neg q]; exact h
theorem jrA_I {t w : Tr} {M : Pr} (h : mI M) : mI (jrA t w M) := by
  unfold jrA
  by_cases q : M.1 0 = none ∧ M.2 0 = none ∧ t.2.2.1 0 = w.2.2.1 0
  · rw [if_pos q]; exact prA_I (pJ_I h q.1 q.2.1)
  · rw [if_neg q]; exact h
/-! the rounds -/
theorem cr_upw {t w : Tr} (hw : tW t) (hw' : tW w) {x y : Nat} (hy : y < w.1) : ∀ n v, n < t.1 → cr t w x y n = some v → up w y v := by
  intro n
  induction n using Nat.strongRecOn with
  | ind n ih =>
    intro v hn h
    have h12 := hw.1
    have h12' := hw'.1
    by_cases e : n = x
    · rw [e, cr_x] at h; cases h; exact Or.inl rfl
    · obtain ⟨h1, q, h2, h3⟩ := cr_up hw hw' hn hy h e
      have hp := pm_lt t (show 0 < n by omega)
      have hq := (cr_W hw hw' hy _ q (by omega) h2).2.2
      obtain ⟨b1, b2, b3, b4⟩ := kd_some hw' (by omega) (cnt12 hw hn _) h3
      have e2 : pm w v = q := pm_of b2 b4 (by omega)
      right
      rcases ih _ hp q (by omega) h2 with q1 | q1
      · exact (bl_iff (by omega)).mpr (Or.inl (e2.trans q1))
      · exact (bl_iff (by omega)).mpr (Or.inr (by rw [e2]; exact q1))
theorem cr_sur {t w : Tr} (hw : tW t) (hw' : tW w) {x y : Nat} (hx : x < t.1) (hy : y < w.1) (ha : alN t w x y = true) : ∀ v, v < w.1 → up w y v → ∃ n, n < t.1 ∧ cr t w x y n = some v := by
  intro v
  induction v using Nat.strongRecOn with
  | ind v ih =>
    intro hv h
    have h12 := hw.1
    have h12' := hw'.1
    by_cases e : v = y
    · rw [e]; exact ⟨x, hx, cr_x t w x y⟩
    · obtain ⟨v0, h1⟩ := up_pm h e
      have hp := pm_lt w v0
      obtain ⟨n, n1, n2⟩ := ih _ hp (by omega) h1
      obtain ⟨v', c1, c2, c3⟩ := cr_al hw hw' hx hy ha n n1 (cr_bl hw hw' hy n _ n1 n2)
      rw [n2] at c1
      cases c1
      have hk : cnt w.2.1 (nI (pm w v)) v < kc w (pm w v) := cnt_lt hv (pm_eq hw' v0 hv)
      obtain ⟨k1, k2⟩ := al_kid hw hw' n1 (by omega) c3
      obtain ⟨a, b, a1, a2, a3, a4, a5, -⟩ := k2 _ (by rw [k1]; exact hk)
      have hc := cnt_le w.2.1 (nI (pm w v)) v
      obtain ⟨d1, d2, d3, d4⟩ := kd_some hw (by omega) (by omega) a1
      have ep : pm t a = n := pm_of d2 d4 (by omega)
      have hxn := (cr_W hw hw' hy n _ n1 n2).1
      refine ⟨a, a3, ?_⟩
      rw [cr_gt t w (by omega), ep, n2]
      show kd w (pm w v) (cnt t.2.1 (nI n) a) = some v
      rw [d3]
      exact kd_of hw' hv (pm_eq hw' v0 hv) rfl (by omega)
/-- nodes alike to the same one have the same height -/
theorem al_H {t w : Tr} {H : Nat → Nat} (hw : tW t) (hw' : tW w) (hH : hP t H) : ∀ (m x x' y : Nat), t.1 - x ≤ m → x < t.1 → x' < t.1 → y < w.1 → alN t w x y = true → alN t w x' y = true → H x ≤ H x'
  | 0, x, x', y, hm, hx, _, _, _, _ => by omega
  | m + 1, x, x', y, hm, hx, hx', hy, ha, ha' => by
    have h12 := hw.1
    have h12' := hw'.1
    rcases hH.2.2.1 x with e | ⟨c, c1, c2, c3, c4⟩
    · have := hH.1 x'; omega
    · obtain ⟨k1, k2⟩ := al_kid hw hw' hx hy ha
      obtain ⟨k1', k2'⟩ := al_kid hw hw' hx' hy ha'
      have ec := pm_eq hw (show 0 < c by omega) c2
      rw [c3] at ec
      have hk : cnt t.2.1 (nI x) c < kc t x := cnt_lt c2 ec
      obtain ⟨a, b, a1, a2, a3, a4, a5, a6⟩ := k2 _ hk
      rw [kd_of hw c2 ec rfl (by omega)] at a1
      cases a1
      obtain ⟨a', b', b1, b2, b3, b4, b5, b6⟩ := k2' (cnt t.2.1 (nI x) c) (by omega)
      rw [a2] at b2
      cases b2
      have := al_H hw hw' hH m c a' b (by omega) a3 b3 a4 a6 b6
      have hcl := cnt_le t.2.1 (nI x) c
      obtain ⟨d1, d2, d3, d4⟩ := kd_some hw (by omega) (by omega) b1
      have e2 : pm t a' = x' := pm_of d2 d4 (by omega)
      have := hH.2.1 a' (by omega) b3
      rw [e2] at this
      omega
theorem up_H {t : Tr} {H : Nat → Nat} (hH : hP t H) {a b : Nat} (hb : b < t.1) (h : up t a b) (hn : b ≠ a) : H b < H a := by
  rcases h with e | e
  · exact absurd e hn
  · unfold bl at e
    rw [Bool.and_eq_true] at e
    obtain ⟨k, hk⟩ := Option.isSome_iff_exists.mp e.2
    have h1 := of_decide_eq_true e.1
    have := hP_lev hH b k hb hk
    have hk0 : k ≠ 0 := fun q => by
      rw [lev_gt t h1] at hk
      obtain ⟨k', -, e3⟩ := Option.map_eq_some_iff.mp hk
      omega
    omega
theorem bs1_H {t w : Tr} {H : Nat → Nat} {M : Pr} {A : Bs} {x y : Nat} : bsH A ≤ bsH (bs1 t w H M A x y) ∧ (frA t w H M x y = true → H x ≤ bsH (bs1 t w H M A x y)) := by
  by_cases q : bsP t w H M A x y
  · rw [bs1_y q, bsH_s]; exact ⟨q.2.1, fun _ => Nat.le_refl _⟩
  · rw [bs1_n q]
    refine ⟨Nat.le_refl _, fun hf => ?_⟩
    refine Classical.byContradiction fun e => q ⟨hf, by omega, Or.inl (by omega)⟩
theorem bsF_H {t w : Tr} {H : Nat → Nat} {M : Pr} {x : Nat} : ∀ (m y : Nat) (A : Bs), bsH A ≤ bsH (bsF t w H M x m y A) ∧ ∀ z, y ≤ z → z < y + m → frA t w H M x z = true → H x ≤ bsH (bsF t w H M x m y A)
  | 0, y, A => ⟨Nat.le_refl _, fun z h1 h2 => by omega⟩
  | m + 1, y, A => by
    rw [bsF_s]
    obtain ⟨i1, i2⟩ := bsF_H (t := t) (w := w) (H := H) (M := M) (x := x) m (y + 1) (bs1 t w H M A x y)
    obtain ⟨j1, j2⟩ := bs1_H (t := t) (w := w) (H := H) (M := M) (A := A) (x := x) (y := y)
    refine ⟨Nat.le_trans j1 i1, fun z h1 h2 hf => ?_⟩
    by_cases e : z = y
    · rw [e] at hf; exact Nat.le_trans (j2 hf) i1
    · exact i2 z (by omega) (by omega) hf
theorem bsG_H {t w : Tr} {H : Nat → Nat} {M : Pr} : ∀ (m x : Nat) (A : Bs), bsH A ≤ bsH (bsG t w H M m x A) ∧ ∀ a b, x ≤ a → a < x + m → b < w.1 → frA t w H M a b = true → H a ≤ bsH (bsG t w H M m x A)
  | 0, x, A => ⟨Nat.le_refl _, fun a b h1 h2 => by omega⟩
  | m + 1, x, A => by
    rw [bsG_s]
    obtain ⟨i1, i2⟩ := bsG_H (t := t) (w := w) (H := H) (M := M) m (x + 1) (bsF t w H M x w.1 0 A)
    obtain ⟨j1, j2⟩ := bsF_H (t := t) (w := w) (H := H) (M := M) (x := x) w.1 0 A
    refine ⟨Nat.le_trans j1 i1, fun a b h1 h2 h3 hf => ?_⟩
    by_cases e : a = x
    · rw [e] at hf ⊢; exact Nat.le_trans (j2 b (Nat.zero_le _) (by omega) hf) i1
    · exact i2 a b (by omega) (by omega) h3 hf
/-- what holds between the rounds: whole twigs are joined, the taller ones first -/
def rI (t w : Tr) (H : Nat → Nat) (h : Nat) (M : Pr) : Prop := mI M ∧ (∀ n v, M.1 n = some v → n < t.1 ∧ ∃ x y, x < t.1 ∧ y < w.1 ∧ alN t w x y = true ∧ cr t w x y n = some v ∧ h ≤ H x ∧ ∀ z u, z < t.1 → cr t w x y z = some u → M.1 z = some u) ∧ ∀ x y, x < t.1 → y < w.1 → frA t w H M x y = true → H x ≤ h
theorem cr_up' {t w : Tr} (hw : tW t) (hw' : tW w) {x y n v : Nat} (hy : y < w.1) (hn : n < t.1) (h : cr t w x y n = some v) : up t x n := cr_bl hw hw' hy n v hn h
theorem rI_s {t w : Tr} {H : Nat → Nat} {h : Nat} {M M1 : Pr} {q : Nat × Nat × Nat × Nat} (hw : tW t) (hw' : tW w) (hH : hP t H) (hI : rI t w H h M) (hb : bsA t w H M = some q) (hj : jS (tw t w q.1 q.2.1 t.1) M M1) : rI t w H (H q.1) M1 := by
  obtain ⟨i1, i2, i3⟩ := hI
  obtain ⟨w1, w2, w3, -, -, -, w7⟩ := bsA_W hw hH q hb
  obtain ⟨x, y, hh, ss⟩ := q
  dsimp only at w1 w2 w3 w7 hj ⊢
  obtain ⟨f1, f2, f3, f4⟩ := frA_H w7
  have hxh := i3 x y w1 w2 w7
  -- the nodes of the twig are free
  have C1 : ∀ n v, n < t.1 → cr t w x y n = some v → M.1 n = none := by
    intro n v hn hc
    cases e : M.1 n with
    | none => rfl
    | some v0 =>
      exfalso
      obtain ⟨-, x', y', a1, a2, a3, a4, a5, a6⟩ := i2 n v0 e
      have u1 := cr_up' hw hw' a2 hn a4
      have u2 := cr_up' hw hw' w2 hn hc
      by_cases c : x' ≤ x
      · obtain ⟨z, z1, -, -⟩ := cr_al hw hw' a1 a2 a3 x w1 (up_lin c n u1 u2)
        rw [a6 x z w1 z1] at f3; cases f3
      · have u3 := up_lin (show x ≤ x' by omega) n u2 u1
        have := up_H hH a1 u3 (by omega)
        omega
  have C2 : ∀ n v, n < t.1 → cr t w x y n = some v → M.2 v = none := by
    intro n v hn hc
    cases e : M.2 v with
    | none => rfl
    | some n0 =>
      exfalso
      obtain ⟨b0, x', y', a1, a2, a3, a4, a5, a6⟩ := i2 n0 v ((i1 n0 v).mpr e)
      have u1 := cr_upw hw hw' a2 n0 v b0 a4
      have u2 := cr_upw hw hw' w2 n v hn hc
      by_cases c : y' ≤ y
      · obtain ⟨z, z1, z2⟩ := cr_sur hw hw' a1 a2 a3 y w2 (up_lin c v u1 u2)
        have := (i1 z y).mp (a6 z y z1 z2)
        rw [this] at f4; cases f4
      · have u3 := up_lin (show y ≤ y' by omega) v u2 u1
        obtain ⟨z, z1, z2⟩ := cr_sur hw hw' w1 w2 f2 y' a2 u3
        have zx : z ≠ x := fun q => by
          rw [q, cr_x] at z2; cases z2; omega
        have u4 := cr_up' hw hw' w2 z1 z2
        have := up_H hH z1 u4 zx
        obtain ⟨v', c1, c2, c3⟩ := cr_al hw hw' w1 w2 f2 z z1 u4
        rw [z2] at c1
        cases c1
        have := al_H hw hw' hH _ x' z y' (Nat.le_refl _) a1 z1 a2 a3 c3
        omega
  have T : ∀ n v, tw t w x y t.1 n v ↔ n < t.1 ∧ cr t w x y n = some v := fun n v => ⟨fun q => ⟨q.1, q.2.2⟩, fun q => ⟨q.1, q.1, q.2⟩⟩
  have o1 : ∀ n v, M.1 n = some v → M1.1 n = some v := by
    intro n v e
    rw [← e]
    refine hj.2.1 n fun u hu => ?_
    rw [C1 n u ((T n u).mp hu).1 ((T n u).mp hu).2] at e; cases e
  have o2 : ∀ v n, M.2 v = some n → M1.2 v = some n := by
    intro v n e
    rw [← e]
    refine hj.2.2 v fun u hu => ?_
    rw [C2 u v ((T u v).mp hu).1 ((T u v).mp hu).2] at e; cases e
  have k1 : ∀ n v, M1.1 n = some v → tw t w x y t.1 n v ∨ M.1 n = some v := by
    intro n v e
    by_cases c : ∃ u, tw t w x y t.1 n u
    · obtain ⟨u, hu⟩ := c
      rw [(hj.1 n u hu).1] at e; cases e
      exact Or.inl hu
    · rw [hj.2.1 n (fun u hu => c ⟨u, hu⟩)] at e
      exact Or.inr e
  have k2 : ∀ v n, M1.2 v = some n → tw t w x y t.1 n v ∨ M.2 v = some n := by
    intro v n e
    by_cases c : ∃ u, tw t w x y t.1 u v
    · obtain ⟨u, hu⟩ := c
      rw [(hj.1 u v hu).2] at e; cases e
      exact Or.inl hu
    · rw [hj.2.2 v (fun u hu => c ⟨u, hu⟩)] at e
      exact Or.inr e
  refine ⟨fun a b => ⟨fun e => ?_, fun e => ?_⟩, fun n v e => ?_, fun a b ha hb' hf => ?_⟩
  · rcases k1 a b e with c | c
    · exact (hj.1 a b c).2
    · exact o2 b a ((i1 a b).mp c)
  · rcases k2 b a e with c | c
    · exact (hj.1 a b c).1
    · exact o1 a b ((i1 a b).mpr c)
  · rcases k1 n v e with c | c
    · obtain ⟨c1, c2⟩ := (T n v).mp c
      exact ⟨c1, x, y, w1, w2, f2, c2, Nat.le_refl _, fun z u hz hc => (hj.1 z u ((T z u).mpr ⟨hz, hc⟩)).1⟩
    · obtain ⟨b0, x', y', a1, a2, a3, a4, a5, a6⟩ := i2 n v c
      exact ⟨b0, x', y', a1, a2, a3, a4, by omega, fun z u hz hc => o1 z u (a6 z u hz hc)⟩
  · obtain ⟨g1, g2, g3, g4⟩ := frA_H hf
    have e1 : M.1 a = none := by
      cases e : M.1 a with
      | none => rfl
      | some v => rw [o1 a v e] at g3; cases g3
    have e2 : M.2 b = none := by
      cases e : M.2 b with
      | none => rfl
      | some v => rw [o2 b v e] at g4; cases g4
    have hf' : frA t w H M a b = true := by
      unfold frA
      rw [Bool.and_eq_true, Bool.and_eq_true, Bool.and_eq_true, decide_eq_true_iff, Option.isNone_iff_eq_none, Option.isNone_iff_eq_none]
      exact ⟨⟨⟨g1, g2⟩, e1⟩, e2⟩
    have := (bsG_H (t := t) (w := w) (H := H) (M := M) t.1 0 none).2 a b (Nat.zero_le _) (by omega) hb' hf'
    have e3 : bsG t w H M t.1 0 none = some (x, y, hh, ss) := hb
    rw [e3, bsH_s] at this
    omega
theorem rnd_I {t w : Tr} {H : Nat → Nat} (hw : tW t) (hw' : tW w) (hH : hP t H) : ∀ (k h : Nat) (M M' : Pr), rI t w H h M → rnd t w H k M M' → mI M'
  | 0, h, M, M', hI, hr => by
    have hr : M' = M := hr
    rw [hr]; exact hI.1
  | k + 1, h, M, M', hI, hr => by
    rcases hr with ⟨-, e⟩ | ⟨q, M1, e1, e2, e3⟩
    · rw [e]; exact hI.1
    · exact rnd_I hw hw' hH k (H q.1) M1 M' (rI_s hw hw' hH hI e1 e2) e3
theorem prt_I {t w : Tr} {H : Nat → Nat} {M : Pr} (hw : tW t) (hw' : tW w) (hH : hP t H) (h : prt t w H M) : mI M := by
  obtain ⟨M1, h1, e⟩ := h
  rw [e]
  refine jrA_I (jbF_I _ _ (rnd_I hw hw' hH 12 12 pN M1 ⟨fun a b => ⟨fun q => (by cases q), fun q => (by cases q)⟩, fun n v q => (by cases q), fun x y hx _ _ => ?_⟩ h1))
  have := hH.2.2.2 x hx
  have := hw.1
  omega
