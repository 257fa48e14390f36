/-! A small machine over a typed memory, and what it takes to run it. Its soundness (part sound) says: what it does, the JVM does.
    memory: kinds of the cells (array?, class or element type, number of fields or elements), ints, longs, references; a cell's address is its place -/
abbrev xK : Type := Bool × Nat × Nat
abbrev xM : Type := List xK × (Nat → Nat → Int32) × (Nat → Nat → Int64) × (Nat → Nat → Option Nat)
abbrev xL : Type := List (Option Value)
abbrev xC : Type := Nat × xL × List Value × xM
/-- an instruction, linked: the instruction itself, the next place, its constant, its numbers -/
abbrev xE : Type := Instr × Nat × Int32 × List Nat
def x_u {α : Type} (f : Nat → Nat → α) (a j : Nat) (v : α) : Nat → Nat → α := fun b i => if b = a ∧ i = j then v else f b i
def x_w {α : Type} (f : Nat → Nat → α) (a : Nat) (v : α) : Nat → Nat → α := fun b i => if b = a then v else f b i
def x_c {α : Type} (f : Nat → Nat → α) (a b : Nat) : Nat → Nat → α := fun q i => if q = a then f b i else f q i
def x_new (M : xM) (k : xK) : xM := (M.1 ++ [k], x_w M.2.1 M.1.length 0, x_w M.2.2.1 M.1.length 0, x_w M.2.2.2 M.1.length none)
/-- a copy of an array of ints -/
def x_dup (M : xM) (k : xK) (b : Nat) : xM := (M.1 ++ [k], x_c M.2.1 M.1.length b, x_w M.2.2.1 M.1.length 0, x_w M.2.2.2 M.1.length none)
abbrev x_a (e : xE) (j : Nat) : Nat := e.2.2.2.getD j 0
def x_i1 (e : xE) (ls : xL) (st : List Value) (M : xM) (v : Value) : Option xC := some (e.2.1, ls, v :: st, M)
def x_i2 (e : xE) (ls : xL) (st : List Value) (M : xM) (f : Int32 → Int32 → Int32) : Option xC := match st with
  | .int y :: .int x :: r => some (e.2.1, ls, .int (f x y) :: r, M)
  | _ => none
def x_dv (e : xE) (ls : xL) (st : List Value) (M : xM) : Option xC := match st with
  | .int y :: .int x :: r => if y = 0 then none else some (e.2.1, ls, .int (x / y) :: r, M)
  | _ => none
def x_l2 (e : xE) (ls : xL) (st : List Value) (M : xM) (f : Int64 → Int64 → Int64) : Option xC := match st with
  | .long y :: .long x :: r => some (e.2.1, ls, .long (f x y) :: r, M)
  | _ => none
def x_ls (e : xE) (ls : xL) (st : List Value) (M : xM) (f : Int64 → Int64 → Int64) : Option xC := match st with
  | .int y :: .long x :: r => some (e.2.1, ls, .long (f x (y.toInt64 &&& 63)) :: r, M)
  | _ => none
def x_lc (e : xE) (ls : xL) (st : List Value) (M : xM) : Option xC := match st with
  | .long y :: .long x :: r => some (e.2.1, ls, .int (lg_cmp x y) :: r, M)
  | _ => none
def x_ld (e : xE) (ls : xL) (st : List Value) (M : xM) : Option xC := match ls[x_a e 0]? with
  | some (some (.int x)) => some (e.2.1, ls, .int x :: st, M)
  | _ => none
def x_la (e : xE) (ls : xL) (st : List Value) (M : xM) : Option xC := match ls[x_a e 0]? with
  | some (some (.ref x)) => some (e.2.1, ls, .ref x :: st, M)
  | some (some .null) => some (e.2.1, ls, .null :: st, M)
  | _ => none
def x_si (e : xE) (ls : xL) (st : List Value) (M : xM) : Option xC := match st with
  | .int x :: r => some (e.2.1, ls.set (x_a e 0) (some (.int x)), r, M)
  | _ => none
def x_sa (e : xE) (ls : xL) (st : List Value) (M : xM) : Option xC := match st with
  | .ref x :: r => some (e.2.1, ls.set (x_a e 0) (some (.ref x)), r, M)
  | .null :: r => some (e.2.1, ls.set (x_a e 0) (some .null), r, M)
  | _ => none
def x_in (e : xE) (ls : xL) (st : List Value) (M : xM) : Option xC := match ls[x_a e 0]? with
  | some (some (.int x)) => some (e.2.1, ls.set (x_a e 0) (some (.int (x + e.2.2.1))), st, M)
  | _ => none
def x_b1 (e : xE) (ls : xL) (st : List Value) (M : xM) (p : Int32 → Bool) : Option xC := match st with
  | .int x :: r => some (if p x = true then x_a e 0 else e.2.1, ls, r, M)
  | _ => none
def x_b2 (e : xE) (ls : xL) (st : List Value) (M : xM) (p : Int32 → Int32 → Bool) : Option xC := match st with
  | .int y :: .int x :: r => some (if p x y = true then x_a e 0 else e.2.1, ls, r, M)
  | _ => none
def x_nu (e : xE) (ls : xL) (st : List Value) (M : xM) : Option xC := match st with
  | .ref _ :: r => some (e.2.1, ls, r, M)
  | .null :: r => some (x_a e 0, ls, r, M)
  | _ => none
def x_nn (e : xE) (ls : xL) (st : List Value) (M : xM) : Option xC := match st with
  | .ref _ :: r => some (x_a e 0, ls, r, M)
  | .null :: r => some (e.2.1, ls, r, M)
  | _ => none
/-- a table: numbers: lowest, the place for none, the places -/
def x_ts (e : xE) (ls : xL) (st : List Value) (M : xM) : Option xC := match st with
  | .int x :: r => some (if x.toInt < (x_a e 0 : Int) then x_a e 1 else (e.2.2.2.drop 2).getD (x.toInt - (x_a e 0 : Int)).toNat (x_a e 1), ls, r, M)
  | _ => none
def x_d1 (e : xE) (ls : xL) (st : List Value) (M : xM) : Option xC := match st with
  | v :: r => if v.category = 1 then some (e.2.1, ls, v :: v :: r, M) else none
  | _ => none
def x_d2 (e : xE) (ls : xL) (st : List Value) (M : xM) : Option xC := match st with
  | v :: w :: r => if v.category = 1 ∧ w.category = 1 then some (e.2.1, ls, v :: w :: v :: w :: r, M) else none
  | _ => none
def x_po (e : xE) (ls : xL) (st : List Value) (M : xM) : Option xC := match st with
  | v :: r => if v.category = 1 then some (e.2.1, ls, r, M) else none
  | _ => none
/-- fields: numbers: class, how many fields it has, which, its type (0 int, 1 boolean, 2 long, 3 reference) -/
def x_fv (ty : Nat) (M : xM) (a j : Nat) : Value := match ty with
  | 0 => .int (M.2.1 a j)
  | 1 => .int (M.2.1 a j)
  | 2 => .long (M.2.2.1 a j)
  | _ => va_rf (M.2.2.2 a j)
def x_gf (e : xE) (ls : xL) (st : List Value) (M : xM) : Option xC := match st with
  | .ref a :: r => if M.1[a]? = some (false, x_a e 0, x_a e 1) then some (e.2.1, ls, x_fv (x_a e 3) M a (x_a e 2) :: r, M) else none
  | _ => none
def x_pv (ty : Nat) (M : xM) (a j : Nat) (v : Value) : Option xM := match ty, v with
  | 0, .int x => some (M.1, x_u M.2.1 a j x, M.2.2)
  | 1, .int x => if x = 0 ∨ x = 1 then some (M.1, x_u M.2.1 a j x, M.2.2) else none
  | 2, .long x => some (M.1, M.2.1, x_u M.2.2.1 a j x, M.2.2.2)
  | 3, .ref x => some (M.1, M.2.1, M.2.2.1, x_u M.2.2.2 a j (some x))
  | 3, .null => some (M.1, M.2.1, M.2.2.1, x_u M.2.2.2 a j none)
  | _, _ => none
def x_pf (e : xE) (ls : xL) (st : List Value) (M : xM) : Option xC := match st with
  | v :: .ref a :: r => if M.1[a]? = some (false, x_a e 0, x_a e 1) then (x_pv (x_a e 3) M a (x_a e 2) v).map (fun M' => (e.2.1, ls, r, M')) else none
  | _ => none
/-- arrays: element types: 0 int, 1 boolean, from 2 on references -/
def x_al (e : xE) (ls : xL) (st : List Value) (M : xM) (t : Nat) : Option xC := match st with
  | .int i :: .ref a :: r => match M.1[a]? with
    | some (true, t', n) => if t' = t ∧ ¬ i < 0 ∧ i.toNatClampNeg < n then some (e.2.1, ls, .int (M.2.1 a i.toNatClampNeg) :: r, M) else none
    | _ => none
  | _ => none
def x_aq (e : xE) (ls : xL) (st : List Value) (M : xM) : Option xC := match st with
  | .int i :: .ref a :: r => match M.1[a]? with
    | some (true, t', n) => if 2 ≤ t' ∧ t' < 5 ∧ ¬ i < 0 ∧ i.toNatClampNeg < n then some (e.2.1, ls, va_rf (M.2.2.2 a i.toNatClampNeg) :: r, M) else none
    | _ => none
  | _ => none
def x_as (e : xE) (ls : xL) (st : List Value) (M : xM) (t : Nat) : Option xC := match st with
  | .int x :: .int i :: .ref a :: r => match M.1[a]? with
    | some (true, t', n) => if t' = t ∧ ¬ i < 0 ∧ i.toNatClampNeg < n ∧ (t = 0 ∨ x = 0 ∨ x = 1) then some (e.2.1, ls, r, (M.1, x_u M.2.1 a i.toNatClampNeg x, M.2.2)) else none
    | _ => none
  | _ => none
/-- aastore: the class of an array type's elements is x_ec -/
def x_sq (ec : Nat → Nat) (e : xE) (ls : xL) (st : List Value) (M : xM) : Option xC := match st with
  | .ref v :: .int i :: .ref a :: r => match M.1[a]?, M.1[v]? with
    | some (true, t', n), some (false, ci, _) => if 2 ≤ t' ∧ t' < 5 ∧ ec t' = ci ∧ ¬ i < 0 ∧ i.toNatClampNeg < n then some (e.2.1, ls, r, (M.1, M.2.1, M.2.2.1, x_u M.2.2.2 a i.toNatClampNeg (some v))) else none
    | _, _ => none
  | .null :: .int i :: .ref a :: r => match M.1[a]? with
    | some (true, t', n) => if 2 ≤ t' ∧ t' < 5 ∧ ¬ i < 0 ∧ i.toNatClampNeg < n then some (e.2.1, ls, r, (M.1, M.2.1, M.2.2.1, x_u M.2.2.2 a i.toNatClampNeg none)) else none
    | _ => none
  | _ => none
def x_ln (e : xE) (ls : xL) (st : List Value) (M : xM) : Option xC := match st with
  | .ref a :: r => match M.1[a]? with
    | some (true, 0, n) => some (e.2.1, ls, .int (nI n) :: r, M)
    | _ => none
  | _ => none
def x_nw (e : xE) (ls : xL) (st : List Value) (M : xM) : Option xC := some (e.2.1, ls, .ref M.1.length :: st, x_new M (false, x_a e 0, x_a e 1))
def x_na (e : xE) (ls : xL) (st : List Value) (M : xM) : Option xC := match st with
  | .int n :: r => if ¬ n < 0 ∧ n.toNatClampNeg ≤ 65536 then some (e.2.1, ls, .ref M.1.length :: r, x_new M (true, x_a e 0, n.toNatClampNeg)) else none
  | _ => none
/-- checkcast, of an array of ints alone -/
def x_cc (e : xE) (ls : xL) (st : List Value) (M : xM) : Option xC := match st with
  | .ref a :: r => match M.1[a]? with
    | some (true, 0, _) => some (e.2.1, ls, .ref a :: r, M)
    | _ => none
  | _ => none
/-- what a call does that is no call: 8: Object's constructor, 9: clone() of an array of ints -/
def x_iv (dp : Nat) (e : xE) (ls : xL) (st : List Value) (M : xM) : Option xC := match dp, x_a e 0, st with
  | _ + 1, 8, .ref _ :: r => if (r.map fun v => v.category).sum ≤ 8 then some (e.2.1, ls, r, M) else none
  | _ + 1, 9, .ref a :: r => match M.1[a]? with
    | some (true, 0, n) => if (r.map fun v => v.category).sum ≤ 8 then some (e.2.1, ls, .ref M.1.length :: r, x_dup M (true, 0, n) a) else none
    | _ => none
  | _, _, _ => none
/-- a step that stays in its frame -/
def x_st (ec : Nat → Nat) (dp : Nat) (e : xE) (ls : xL) (st : List Value) (M : xM) : Option xC := match e.1 with
  | .iconst _ => x_i1 e ls st M (.int e.2.2.1)
  | .bipush _ => x_i1 e ls st M (.int e.2.2.1)
  | .sipush _ => x_i1 e ls st M (.int e.2.2.1)
  | .ldc _ => x_i1 e ls st M (.int e.2.2.1)
  | .ldc_w _ => x_i1 e ls st M (.int e.2.2.1)
  | .lconst n => x_i1 e ls st M (.long (lN n.val))
  | .aconst_null => x_i1 e ls st M .null
  | .iload_n _ => x_ld e ls st M
  | .iload _ => x_ld e ls st M
  | .aload_n _ => x_la e ls st M
  | .aload _ => x_la e ls st M
  | .istore_n _ => x_si e ls st M
  | .istore _ => x_si e ls st M
  | .astore_n _ => x_sa e ls st M
  | .astore _ => x_sa e ls st M
  | .iinc _ _ => x_in e ls st M
  | .iadd => x_i2 e ls st M (· + ·)
  | .isub => x_i2 e ls st M (· - ·)
  | .imul => x_i2 e ls st M (· * ·)
  | .iand => x_i2 e ls st M (· &&& ·)
  | .ior => x_i2 e ls st M (· ||| ·)
  | .ixor => x_i2 e ls st M (· ^^^ ·)
  | .ishl => x_i2 e ls st M (fun x y => x <<< (y &&& 31))
  | .ishr => x_i2 e ls st M (fun x y => x >>> (y &&& 31))
  | .iushr => x_i2 e ls st M (fun x y => (x.toUInt32 >>> (y.toUInt32 &&& Int32.toUInt32 31)).toInt32)
  | .idiv => x_dv e ls st M
  | .land => x_l2 e ls st M (· &&& ·)
  | .lor => x_l2 e ls st M (· ||| ·)
  | .lshl => x_ls e ls st M (· <<< ·)
  | .lshr => x_ls e ls st M (· >>> ·)
  | .lcmp => x_lc e ls st M
  | .ifCond .eq _ => x_b1 e ls st M (fun x => decide (x = 0))
  | .ifCond .ne _ => x_b1 e ls st M (fun x => decide (x ≠ 0))
  | .ifCond .lt _ => x_b1 e ls st M (fun x => decide (x < 0))
  | .ifCond .ge _ => x_b1 e ls st M (fun x => decide (0 ≤ x))
  | .ifCond .gt _ => x_b1 e ls st M (fun x => decide (0 < x))
  | .ifCond .le _ => x_b1 e ls st M (fun x => decide (x ≤ 0))
  | .if_icmp .eq _ => x_b2 e ls st M (fun x y => decide (x = y))
  | .if_icmp .ne _ => x_b2 e ls st M (fun x y => decide (x ≠ y))
  | .if_icmp .lt _ => x_b2 e ls st M (fun x y => decide (x < y))
  | .if_icmp .ge _ => x_b2 e ls st M (fun x y => decide (y ≤ x))
  | .if_icmp .gt _ => x_b2 e ls st M (fun x y => decide (y < x))
  | .if_icmp .le _ => x_b2 e ls st M (fun x y => decide (x ≤ y))
  | .goto _ => some (x_a e 0, ls, st, M)
  | .ifnull _ => x_nu e ls st M
  | .ifnonnull _ => x_nn e ls st M
  | .tableswitch _ _ _ _ => x_ts e ls st M
  | .dup => x_d1 e ls st M
  | .dup2 => x_d2 e ls st M
  | .pop => x_po e ls st M
  | .getfield _ => x_gf e ls st M
  | .putfield _ => x_pf e ls st M
  | .iaload => x_al e ls st M 0
  | .baload => x_al e ls st M 1
  | .aaload => x_aq e ls st M
  | .iastore => x_as e ls st M 0
  | .bastore => x_as e ls st M 1
  | .aastore => x_sq ec e ls st M
  | .arraylength => x_ln e ls st M
  | .new _ => x_nw e ls st M
  | .newarray _ => x_na e ls st M
  | .anewarray _ => x_na e ls st M
  | .checkcast _ => x_cc e ls st M
  | .invokespecial _ => x_iv dp e ls st M
  | .invokevirtual _ => x_iv dp e ls st M
  | _ => none
/-- a call: numbers: how (0 virtual, 1 static, 2 static of another class, 3 constructor; 4, 5, 6: virtual, static, constructor of a nest mate's private), whom, its class, how many values it takes, the receiver among them -/
def x_cl (e : xE) (st : List Value) (M : xM) : Option (Nat × List Value × List Value) := match e.1 with
  | .invokevirtual _ => if (x_a e 0 = 0 ∨ x_a e 0 = 4) ∧ x_a e 3 ≤ st.length then (match (st.take (x_a e 3)).reverse with
    | .ref a :: as => (match M.1[a]? with
      | some (false, ci, _) => if ci = x_a e 2 ∧ ((st.drop (x_a e 3)).map fun v => v.category).sum ≤ 8 then some (x_a e 1, .ref a :: as, st.drop (x_a e 3)) else none
      | _ => none)
    | _ => none) else none
  | .invokestatic _ => if x_a e 3 ≤ st.length ∧ ((st.drop (x_a e 3)).map fun v => v.category).sum ≤ 8 then some (x_a e 1, (st.take (x_a e 3)).reverse, st.drop (x_a e 3)) else none
  | .invokespecial _ => if (x_a e 0 = 3 ∨ x_a e 0 = 6) ∧ x_a e 3 ≤ st.length then (match (st.take (x_a e 3)).reverse with
    | .ref a :: as => if ((st.drop (x_a e 3)).map fun v => v.category).sum ≤ 8 then some (x_a e 1, .ref a :: as, st.drop (x_a e 3)) else none
    | _ => none) else none
  | _ => none
/-- the end of a frame; the number says what is to be returned: 0 nothing, 1 int, 2 boolean, 3 a reference -/
def x_rt (rk : Nat) (e : xE) (st : List Value) : Option (Option Value) := match e.1, rk, st with
  | .return_, 0, [] => some none
  | .ireturn, 1, [.int v] => some (some (.int v))
  | .ireturn, 2, [.int v] => if v = 0 ∨ v = 1 then some (some (.int v)) else none
  | .areturn, 3, [.ref v] => some (some (.ref v))
  | .areturn, 3, [.null] => some (some .null)
  | _, _, _ => none
