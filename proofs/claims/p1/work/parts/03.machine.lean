/-! The abstract machine: a store of cells by place; a reference is a place; the script is the value '.float'. -/
abbrev am_E : Type := (Nat × vp_A) ⊕ (Nat × List Value)
abbrev am_S : Type := List am_E
abbrev am_C : Type := Nat × List Value × List Value × am_S
def am_ok (v : Value) : Bool := match v with
  | .int _ => true
  | .ref _ => true
  | .null => true
  | .float _ => true
  | _ => false
def am_in (i : Int32) (n : Nat) : Bool := !(decide (i < 0)) && decide (i.toNatClampNeg < n)
def am_to (pc : Nat) (off : Int) : Nat := ((pc : Int) + off).toNat
def am_j (pc : Nat) (off : Int) (ls st : List Value) (σ : am_S) : Option am_C :=
  if (pc : Int) + off = ((am_to pc off : Nat) : Int) then some (am_to pc off, ls, st, σ) else none
def am_cond (c : Jvm.ClassFile.Cond) (x y : Int32) : Bool := match c with
  | .eq => decide (x = y)
  | .ne => decide (¬ x = y)
  | .lt => decide (x < y)
  | .ge => decide (y ≤ x)
  | .gt => decide (y < x)
  | .le => decide (x ≤ y)
def am_il (k pc' : Nat) (ls st : List Value) (σ : am_S) : Option am_C := match ls[k]? with
  | some (.int x) => some (pc', ls, .int x :: st, σ)
  | _ => none
def am_al (k pc' : Nat) (ls st : List Value) (σ : am_S) : Option am_C := match ls[k]? with
  | some (.ref x) => some (pc', ls, .ref x :: st, σ)
  | some .null => some (pc', ls, .null :: st, σ)
  | some (.float x) => some (pc', ls, .float x :: st, σ)
  | _ => none
def am_is (k pc' : Nat) (ls st : List Value) (σ : am_S) : Option am_C := match st with
  | .int x :: r => if k < ls.length then some (pc', ls.set k (.int x), r, σ) else none
  | _ => none
def am_as (k pc' : Nat) (ls st : List Value) (σ : am_S) : Option am_C := match st with
  | .ref x :: r => if k < ls.length then some (pc', ls.set k (.ref x), r, σ) else none
  | _ => none
def am_inc (k : Nat) (n : Int) (pc' : Nat) (ls st : List Value) (σ : am_S) : Option am_C := match ls[k]? with
  | some (.int x) => some (pc', ls.set k (.int (x + Int32.ofInt n)), st, σ)
  | _ => none
def am_ii (f : Int32 → Int32 → Int32) (pc : Nat) (ls st : List Value) (σ : am_S) : Option am_C := match st with
  | .int b :: .int a :: r => some (pc + 1, ls, .int (f a b) :: r, σ)
  | _ => none
def am_dv (f : Int32 → Int32 → Int32) (pc : Nat) (ls st : List Value) (σ : am_S) : Option am_C := match st with
  | .int b :: .int a :: r => if b = 0 then none else some (pc + 1, ls, .int (f a b) :: r, σ)
  | _ => none
def am_ng (pc : Nat) (ls st : List Value) (σ : am_S) : Option am_C := match st with
  | .int a :: r => some (pc + 1, ls, .int (-a) :: r, σ)
  | _ => none
def am_d0 (pc : Nat) (ls st : List Value) (σ : am_S) : Option am_C := match st with
  | a :: r => if am_ok a then some (pc + 1, ls, a :: a :: r, σ) else none
  | _ => none
def am_po (pc : Nat) (ls st : List Value) (σ : am_S) : Option am_C := match st with
  | a :: r => if am_ok a then some (pc + 1, ls, r, σ) else none
  | _ => none
def am_d1 (pc : Nat) (ls st : List Value) (σ : am_S) : Option am_C := match st with
  | a :: b :: r => if am_ok a && am_ok b then some (pc + 1, ls, a :: b :: a :: r, σ) else none
  | _ => none
def am_dx (pc : Nat) (ls st : List Value) (σ : am_S) : Option am_C := match st with
  | a :: b :: d :: r => if am_ok a && am_ok b && am_ok d then some (pc + 1, ls, a :: b :: d :: a :: r, σ) else none
  | _ => none
def am_d2 (pc : Nat) (ls st : List Value) (σ : am_S) : Option am_C := match st with
  | a :: b :: r => if am_ok a && am_ok b then some (pc + 1, ls, a :: b :: a :: b :: r, σ) else none
  | _ => none
def am_if (c : Jvm.ClassFile.Cond) (off : Int) (pc : Nat) (ls st : List Value) (σ : am_S) : Option am_C := match st with
  | .int x :: r => if (pc : Int) + off = ((am_to pc off : Nat) : Int) then (if am_cond c x 0 then some (am_to pc off, ls, r, σ) else some (pc + 3, ls, r, σ)) else none
  | _ => none
def am_ic (c : Jvm.ClassFile.Cond) (off : Int) (pc : Nat) (ls st : List Value) (σ : am_S) : Option am_C := match st with
  | .int y :: .int x :: r => if (pc : Int) + off = ((am_to pc off : Nat) : Int) then (if am_cond c x y then some (am_to pc off, ls, r, σ) else some (pc + 3, ls, r, σ)) else none
  | _ => none
def am_ts (dflt lo hi : Int) (offs : Array Int) (pc : Nat) (ls st : List Value) (σ : am_S) : Option am_C := match st with
  | .int x :: r => if x.toInt < lo ∨ hi < x.toInt then am_j pc dflt ls r σ else
    match offs[(x.toInt - lo).toNat]? with
    | some off => am_j pc off ls r σ
    | none => none
  | _ => none
def am_lk (dflt : Int) (ps : Array (Int × Int)) (pc : Nat) (ls st : List Value) (σ : am_S) : Option am_C := match st with
  | .int x :: r => if (ps.toList.zip (ps.toList.drop 1)).all (fun (a, next) => a.1 < next.1) = true then am_j pc (Op.lookupswitch.offset ps.toList dflt x.toInt) ls r σ else none
  | _ => none
/-- a field's kind: 0 an int, 1 a boolean, 2 a reference -/
def am_fit (k : Nat) (v : Value) : Bool := match v with
  | .int x => k == 0 || (k == 1 && (decide (x = 0) || decide (x = 1)))
  | .ref _ => k == 2
  | _ => false
def am_gf (own idx pc : Nat) (ls st : List Value) (σ : am_S) : Option am_C := match st with
  | .ref p :: r => match pg_fld own idx, σ[p]? with
    | some (ci, k), some (.inr (ci', fs)) => if ci' = ci then (match fs[k]? with
      | some v => some (pc + 3, ls, v :: r, σ)
      | none => none) else none
    | _, _ => none
  | _ => none
def am_pf (y own idx pc : Nat) (ls st : List Value) (σ : am_S) : Option am_C := match st with
  | v :: .ref p :: r => match pg_fld own idx, σ[p]? with
    | some (ci, k), some (.inr (ci', fs)) => if ci' = ci ∧ k < fs.length ∧ am_fit (pg_fk ci k) v = true ∧ (pg_ff ci k = true → pg_ini y = true ∧ ci = own) then some (pc + 3, ls, r, σ.set p (.inr (ci, fs.set k v))) else none
    | _, _ => none
  | _ => none
def am_ild (L : Nat) (xs : Nat → Int32) (pc : Nat) (ls st : List Value) (σ : am_S) : Option am_C := match st with
  | .int i :: .ref p :: r => (match σ[p]? with
    | some (.inl (0, (n, .inl f))) => if am_in i n then some (pc + 1, ls, .int (f i.toNatClampNeg) :: r, σ) else none
    | _ => none)
  | .int i :: .float _ :: r => if am_in i L then some (pc + 1, ls, .int (xs i.toNatClampNeg) :: r, σ) else none
  | _ => none
def am_ist (pc : Nat) (ls st : List Value) (σ : am_S) : Option am_C := match st with
  | .int x :: .int i :: .ref p :: r => (match σ[p]? with
    | some (.inl (0, (n, .inl f))) => if am_in i n then some (pc + 1, ls, r, σ.set p (.inl (0, (n, .inl (upd f i.toNatClampNeg x))))) else none
    | _ => none)
  | _ => none
def am_zld (pc : Nat) (ls st : List Value) (σ : am_S) : Option am_C := match st with
  | .int i :: .ref p :: r => (match σ[p]? with
    | some (.inl (1, (n, .inl f))) => if am_in i n then some (pc + 1, ls, .int (f i.toNatClampNeg) :: r, σ) else none
    | _ => none)
  | _ => none
def am_zst (pc : Nat) (ls st : List Value) (σ : am_S) : Option am_C := match st with
  | .int x :: .int i :: .ref p :: r => (match σ[p]? with
    | some (.inl (1, (n, .inl f))) => if am_in i n then some (pc + 1, ls, r, σ.set p (.inl (1, (n, .inl (upd f i.toNatClampNeg (vp_nar .boolean x)))))) else none
    | _ => none)
  | _ => none
/-- arrays of references: kind 2 (objects of the class pg_ae), kind 3 (rows of ints) -/
def am_ald (pc : Nat) (ls st : List Value) (σ : am_S) : Option am_C := match st with
  | .int i :: .ref p :: r => (match σ[p]? with
    | some (.inl (t, (n, .inr (.inr (.inr (.inr f)))))) => if am_in i n ∧ (t = 2 ∨ t = 3) then (match f i.toNatClampNeg with
      | some q => some (pc + 1, ls, .ref q :: r, σ)
      | none => none) else none
    | _ => none)
  | _ => none
def am_ast (pc : Nat) (ls st : List Value) (σ : am_S) : Option am_C := match st with
  | .ref v :: .int i :: .ref p :: r => (match σ[p]?, σ[v]? with
    | some (.inl (2, (n, .inr (.inr (.inr (.inr f)))))), some (.inr (ci, _)) => if am_in i n ∧ ci = pg_ae then some (pc + 1, ls, r, σ.set p (.inl (2, (n, .inr (.inr (.inr (.inr (va_up f i.toNatClampNeg (some v))))))))) else none
    | _, _ => none)
  | _ => none
def am_len (Lo : Option Nat) (pc : Nat) (ls st : List Value) (σ : am_S) : Option am_C := match st with
  | .ref p :: r => (match σ[p]? with
    | some (.inl (t, a)) => if t < 4 then some (pc + 1, ls, .int (Int32.ofNat a.1) :: r, σ) else none
    | _ => none)
  | .float _ :: r => (match Lo with
    | some L => some (pc + 1, ls, .int (Int32.ofNat L) :: r, σ)
    | none => none)
  | _ => none
def am_new (own idx pc : Nat) (ls st : List Value) (σ : am_S) : Option am_C := match pg_new own idx with
  | some ci => some (pc + 3, ls, .ref σ.length :: st, σ ++ [.inr (ci, pg_def ci)])
  | none => none
def am_na (t : ArrayType) (pc : Nat) (ls st : List Value) (σ : am_S) : Option am_C := match st with
  | .int n :: r => if n < 0 ∨ 10000 < n.toNatClampNeg then none else (match t with
    | .int => some (pc + 2, ls, .ref σ.length :: r, σ ++ [.inl (0, (n.toNatClampNeg, .inl (fun _ => 0)))])
    | .boolean => some (pc + 2, ls, .ref σ.length :: r, σ ++ [.inl (1, (n.toNatClampNeg, .inl (fun _ => 0)))])
    | _ => none)
  | _ => none
def am_ar (own idx pc : Nat) (ls st : List Value) (σ : am_S) : Option am_C := match st with
  | .int n :: r => if n < 0 ∨ 10000 < n.toNatClampNeg then none else (if pg_ana own idx = true then some (pc + 3, ls, .ref σ.length :: r, σ ++ [.inl (2, (n.toNatClampNeg, .inr (.inr (.inr (.inr (fun _ => none))))))]) else none)
  | _ => none
def am_row (k : Nat) : am_E := .inl (0, (k, .inl (fun _ => 0)))
def am_ma (own idx pc : Nat) (ls st : List Value) (σ : am_S) : Option am_C := match st with
  | .int k :: .int n :: r => if n < 0 ∨ k < 0 ∨ 10000 < n.toNatClampNeg ∨ 10000 < k.toNatClampNeg then none else (if pg_mna own idx = true then
    some (pc + 4, ls, .ref σ.length :: r, σ ++ (.inl (3, (n.toNatClampNeg, .inr (.inr (.inr (.inr (fun j => if j < n.toNatClampNeg then some (σ.length + 1 + j) else none)))))) :: List.replicate n.toNatClampNeg (am_row k.toNatClampNeg))) else none)
  | _ => none
/-- calls that are one step: 1000 Object's constructor, 1001 Math.max, 1002 Math.min, 1003 System.arraycopy -/
def am_sp (d sp pc : Nat) (ls st : List Value) (σ : am_S) : Option am_C := match d with
  | 0 => none
  | _ + 1 => match sp, st with
    | 1000, .ref _ :: r => if r.length ≤ 8 then some (pc + 3, ls, r, σ) else none
    | 1001, .int b :: .int a :: r => if r.length ≤ 8 then some (pc + 3, ls, .int (if a < b then b else a) :: r, σ) else none
    | 1002, .int b :: .int a :: r => if r.length ≤ 8 then some (pc + 3, ls, .int (if b < a then b else a) :: r, σ) else none
    | 1003, .int n :: .int dp :: .ref q :: .int sp :: .ref p :: r => (match σ[p]?, σ[q]? with
      | some (.inl (0, (n0, .inl f))), some (.inl (0, (n1, .inl g))) =>
        if r.length ≤ 8 ∧ ¬ sp < 0 ∧ ¬ dp < 0 ∧ ¬ n < 0 ∧ sp.toNatClampNeg + n.toNatClampNeg ≤ n0 ∧ dp.toNatClampNeg + n.toNatClampNeg ≤ n1
        then some (pc + 3, ls, r, σ.set q (.inl (0, (n1, .inl (va_cpy f g sp.toNatClampNeg dp.toNatClampNeg n.toNatClampNeg))))) else none
      | _, _ => none)
    | _, _ => none
def am_spc (kd d own idx pc : Nat) (ls st : List Value) (σ : am_S) : Option am_C := match pg_mth own idx with
  | some sp => if (kd = 0 ∧ sp = 1000) ∨ (kd = 1 ∧ 1000 < sp) then am_sp d sp pc ls st σ else none
  | none => none
def am_simple (L : Nat) (xs : Nat → Int32) (d y : Nat) (i : Instr) (pc : Nat) (ls st : List Value) (σ : am_S) : Option am_C := match i with
  | .iconst n => some (pc + 1, ls, .int (Int32.ofInt n) :: st, σ)
  | .bipush n => some (pc + 2, ls, .int (Int8.ofInt n).toInt32 :: st, σ)
  | .sipush n => some (pc + 3, ls, .int (Int16.ofInt n).toInt32 :: st, σ)
  | .ldc idx => match pg_ldc (pg_own y) idx with
    | some v => some (pc + 2, ls, .int v :: st, σ)
    | none => none
  | .ldc_w idx => match pg_ldc (pg_own y) idx with
    | some v => some (pc + 3, ls, .int v :: st, σ)
    | none => none
  | .iload_n k => am_il k.val (pc + 1) ls st σ
  | .iload k => am_il k (pc + 2) ls st σ
  | .aload_n k => am_al k.val (pc + 1) ls st σ
  | .aload k => am_al k (pc + 2) ls st σ
  | .istore_n k => am_is k.val (pc + 1) ls st σ
  | .istore k => am_is k (pc + 2) ls st σ
  | .astore_n k => am_as k.val (pc + 1) ls st σ
  | .astore k => am_as k (pc + 2) ls st σ
  | .iinc k n => am_inc k n (pc + 3) ls st σ
  | .iadd => am_ii (fun a b => a + b) pc ls st σ
  | .isub => am_ii (fun a b => a - b) pc ls st σ
  | .imul => am_ii (fun a b => a * b) pc ls st σ
  | .iand => am_ii (fun a b => a &&& b) pc ls st σ
  | .ior => am_ii (fun a b => a ||| b) pc ls st σ
  | .ixor => am_ii (fun a b => a ^^^ b) pc ls st σ
  | .ishl => am_ii (fun a b => a <<< (b &&& 31)) pc ls st σ
  | .ishr => am_ii (fun a b => a >>> (b &&& 31)) pc ls st σ
  | .iushr => am_ii (fun a b => (a.toUInt32 >>> (b.toUInt32 &&& Int32.toUInt32 31)).toInt32) pc ls st σ
  | .idiv => am_dv (fun a b => a / b) pc ls st σ
  | .irem => am_dv (fun a b => a - a / b * b) pc ls st σ
  | .ineg => am_ng pc ls st σ
  | .dup => am_d0 pc ls st σ
  | .pop => am_po pc ls st σ
  | .dup_x1 => am_d1 pc ls st σ
  | .dup_x2 => am_dx pc ls st σ
  | .dup2 => am_d2 pc ls st σ
  | .ifCond c off => am_if c off pc ls st σ
  | .if_icmp c off => am_ic c off pc ls st σ
  | .goto off => am_j pc off ls st σ
  | .tableswitch dflt lo hi offs => am_ts dflt lo hi offs pc ls st σ
  | .lookupswitch dflt ps => am_lk dflt ps pc ls st σ
  | .getfield idx => am_gf (pg_own y) idx pc ls st σ
  | .putfield idx => am_pf y (pg_own y) idx pc ls st σ
  | .iaload => am_ild (if y = pg_num then L else 0) (if y = pg_num then xs else fun _ => 0) pc ls st σ
  | .iastore => am_ist pc ls st σ
  | .baload => am_zld pc ls st σ
  | .bastore => am_zst pc ls st σ
  | .aaload => am_ald pc ls st σ
  | .aastore => am_ast pc ls st σ
  | .arraylength => am_len (if y = pg_num then some L else none) pc ls st σ
  | .new idx => am_new (pg_own y) idx pc ls st σ
  | .newarray t => am_na t pc ls st σ
  | .anewarray idx => am_ar (pg_own y) idx pc ls st σ
  | .multianewarray idx _ => am_ma (pg_own y) idx pc ls st σ
  | .invokespecial idx => am_spc 0 d (pg_own y) idx pc ls st σ
  | .invokestatic idx => am_spc 1 d (pg_own y) idx pc ls st σ
  | _ => none
/-- how long an instruction is -/
def am_lo (i : Instr) (len : Nat) : Bool := match i with
  | .bipush _ => len == 2
  | .sipush _ => len == 3
  | .ldc _ => len == 2
  | .ldc_w _ => len == 3
  | .iload _ => len == 2
  | .aload _ => len == 2
  | .istore _ => len == 2
  | .astore _ => len == 2
  | .iinc _ _ => len == 3
  | .ifCond _ _ => len == 3
  | .if_icmp _ _ => len == 3
  | .goto _ => len == 3
  | .tableswitch _ _ _ _ => true
  | .lookupswitch _ _ => true
  | .getfield _ => len == 3
  | .putfield _ => len == 3
  | .new _ => len == 3
  | .newarray _ => len == 2
  | .anewarray _ => len == 3
  | .multianewarray _ k => len == 4 && k == 2
  | .invokespecial _ => len == 3
  | .invokestatic _ => len == 3
  | .invokevirtual _ => len == 3
  | _ => len == 1
def am_ret (y : Nat) (i : Instr) (st : List Value) : Option (Option Value) := match i with
  | .ireturn => (match st with
    | [.int v] => if pg_rk y = 1 ∨ (pg_rk y = 2 ∧ (v = 0 ∨ v = 1)) then some (some (.int v)) else none
    | _ => none)
  | .return_ => (match st with
    | [] => if pg_rk y = 0 then some none else none
    | _ => none)
  | _ => none
/-- a call: the callee, its arguments, what stays on the stack -/
def am_cl (y : Nat) (i : Instr) (st : List Value) (σ : am_S) : Option (Nat × List Value × List Value) := match i with
  | .invokevirtual idx => (match pg_mth (pg_own y) idx with
    | some z => if z < pg_num ∧ pg_mk z = 0 then (match st.drop (pg_np z) with
      | .ref b :: r => (match σ[b]? with
        | some (.inr (ci, _)) => if ci = pg_own z ∧ r.length ≤ 4 ∧ (st.take (pg_np z)).length = pg_np z then some (z, .ref b :: (st.take (pg_np z)).reverse, r) else none
        | _ => none)
      | _ => none) else none
    | none => none)
  | .invokespecial idx => (match pg_mth (pg_own y) idx with
    | some z => if z < pg_num ∧ pg_mk z = 1 then (match st.drop (pg_np z) with
      | .ref b :: r => if r.length ≤ 4 ∧ (st.take (pg_np z)).length = pg_np z then some (z, .ref b :: (st.take (pg_np z)).reverse, r) else none
      | _ => none) else none
    | none => none)
  | .invokestatic idx => (match pg_mth (pg_own y) idx with
    | some z => if z < pg_num ∧ pg_mk z = 2 then (if (st.drop (pg_np z)).length ≤ 4 ∧ (st.take (pg_np z)).length = pg_np z then some (z, (st.take (pg_np z)).reverse, st.drop (pg_np z)) else none) else none
    | none => none)
  | _ => none
/-- the locals at a method's start -/
def am_en (z : Nat) (as : List Value) : List Value := as ++ List.replicate (pg_maxL z - as.length) (.retAddr 0)
def am_body (L : Nat) (xs : Nat → Int32) (rec : Nat → Nat → Nat → List Value → List Value → am_S → Option (Option Value × am_S)) (d y pc : Nat) (ls st : List Value) (σ : am_S) : Option (Option Value × am_S) := match decode (pg_code y) pc with
    | .error _ => none
    | .ok (i, len) => if am_lo i len = false then none else
      match am_ret y i st with
      | some r => some (r, σ)
      | none => match am_cl y i st σ with
        | some (z, as, rest) => if as.all am_ok = true ∧ as.length ≤ pg_maxL z then (match d with
          | 0 => none
          | d' + 1 => (match rec d' z 0 (am_en z as) [] σ with
            | none => none
            | some (r, σ1) => rec (d' + 1) y (pc + 3) ls (r.toList ++ rest) σ1)) else none
        | none => match am_simple L xs d y i pc ls st σ with
          | some (pc', ls', st', σ1) => rec d y pc' ls' st' σ1
          | none => none
def am_run (L : Nat) (xs : Nat → Int32) : Nat → Nat → Nat → Nat → List Value → List Value → am_S → Option (Option Value × am_S)
  | 0 => fun _ _ _ _ _ _ => none
  | n + 1 => am_body L xs (am_run L xs n)
def am_Rn (L : Nat) (xs : Nat → Int32) (d y pc : Nat) (ls st : List Value) (σ : am_S) (Q : Option Value → am_S → Prop) : Prop :=
  ∃ (n : Nat) (r : Option Value) (σ' : am_S), am_run L xs n d y pc ls st σ = some (r, σ') ∧ Q r σ'
