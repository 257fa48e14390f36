/-! A small machine over a typed memory, and what it takes to run it. Its soundness (part sound) says: what it does, the JVM does.
    memory: kinds of the cells (array?, class or element type, number of fields or elements), ints, longs, references; a cell's address is its place -/
abbrev xK : Type := Bool × Nat × Nat
abbrev xM : Type := List xK × (Nat → Nat → Int32) × (Nat → Nat → Int64) × (Nat → Nat → Option Nat)
abbrev xL : Type := List (Option Value)
abbrev xC : Type := Nat × xL × List Value × xM
/-- an instruction, linked: the instruction itself, the next place, its constant, its numbers -/
abbrev xE : Type := Instr × Nat × Int32 × List Nat
def x_u {α : Type} (f : Nat → Nat → α) (a j : Nat) (v : α) : Nat → Nat → α := fun b i => if b = a ∧ i = j then v else f b i
def x_w {α : Type} (f : Nat → Nat → α) (a : Nat) (v : α) : Nat → Nat → α := fun b i => if b = a then v else f b i
def x_c {α : Type} (f : Nat → Nat → α) (a b : Nat) : Nat → Nat → α := fun q i => if q = a then f b i else f q i
def x_new (M : xM) (k : xK) : xM := (M.1 ++ [k], x_w M.2.1 M.1.length 0, x_w M.2.2.1 M.1.length 0, x_w M.2.2.2 M.1.length none)
/-- a copy of an array of ints -/
def x_dup (M : xM) (k : xK) (b : Nat) : xM := (M.1 ++ [k], x_c M.2.1 M.1.length b, x_w M.2.2.1 M.1.length 0, x_w M.2.2.2 M.1.length none)
def x_i1 (nx : Nat) (ls : xL) (st : List Value) (M : xM) (v : Value) : Option xC := some (nx, ls, v :: st, M)
def x_i2 (nx : Nat) (ls : xL) (st : List Value) (M : xM) (f : Int32 → Int32 → Int32) : Option xC := match st with
  | .int y :: .int x :: r => some (nx, ls, .int (f x y) :: r, M)
  | _ => none
def x_dv (nx : Nat) (ls : xL) (st : List Value) (M : xM) : Option xC := match st with
  | .int y :: .int x :: r => if y = 0 then none else some (nx, ls, .int (x / y) :: r, M)
  | _ => none
def x_l2 (nx : Nat) (ls : xL) (st : List Value) (M : xM) (f : Int64 → Int64 → Int64) : Option xC := match st with
  | .long y :: .long x :: r => some (nx, ls, .long (f x y) :: r, M)
  | _ => none
def x_ls (nx : Nat) (ls : xL) (st : List Value) (M : xM) (f : Int64 → Int64 → Int64) : Option xC := match st with
  | .int y :: .long x :: r => some (nx, ls, .long (f x (y.toInt64 &&& 63)) :: r, M)
  | _ => none
def x_lc (nx : Nat) (ls : xL) (st : List Value) (M : xM) : Option xC := match st with
  | .long y :: .long x :: r => some (nx, ls, .int (lg_cmp x y) :: r, M)
  | _ => none
def x_ld (nx i : Nat) (ls : xL) (st : List Value) (M : xM) : Option xC := match ls[i]? with
  | some (some (.int x)) => some (nx, ls, .int x :: st, M)
  | _ => none
def x_la (nx i : Nat) (ls : xL) (st : List Value) (M : xM) : Option xC := match ls[i]? with
  | some (some (.ref x)) => some (nx, ls, .ref x :: st, M)
  | some (some .null) => some (nx, ls, .null :: st, M)
  | _ => none
def x_si (nx i : Nat) (ls : xL) (st : List Value) (M : xM) : Option xC := match st with
  | .int x :: r => some (nx, ls.set i (some (.int x)), r, M)
  | _ => none
def x_sa (nx i : Nat) (ls : xL) (st : List Value) (M : xM) : Option xC := match st with
  | .ref x :: r => some (nx, ls.set i (some (.ref x)), r, M)
  | .null :: r => some (nx, ls.set i (some .null), r, M)
  | _ => none
def x_in (nx i : Nat) (c : Int32) (ls : xL) (st : List Value) (M : xM) : Option xC := match ls[i]? with
  | some (some (.int x)) => some (nx, ls.set i (some (.int (x + c))), st, M)
  | _ => none
def x_b1 (nx t : Nat) (ls : xL) (st : List Value) (M : xM) (p : Int32 → Bool) : Option xC := match st with
  | .int x :: r => some (if p x = true then t else nx, ls, r, M)
  | _ => none
def x_b2 (nx t : Nat) (ls : xL) (st : List Value) (M : xM) (p : Int32 → Int32 → Bool) : Option xC := match st with
  | .int y :: .int x :: r => some (if p x y = true then t else nx, ls, r, M)
  | _ => none
def x_nu (nx t : Nat) (ls : xL) (st : List Value) (M : xM) : Option xC := match st with
  | .ref _ :: r => some (nx, ls, r, M)
  | .null :: r => some (t, ls, r, M)
  | _ => none
def x_nn (nx t : Nat) (ls : xL) (st : List Value) (M : xM) : Option xC := match st with
  | .ref _ :: r => some (t, ls, r, M)
  | .null :: r => some (nx, ls, r, M)
  | _ => none
/-- a table: numbers: lowest, the place for none, the places -/
def x_ts (lo t : Nat) (ts : List Nat) (ls : xL) (st : List Value) (M : xM) : Option xC := match st with
  | .int x :: r => some (if x.toInt < (lo : Int) then t else ts.getD (x.toInt - (lo : Int)).toNat t, ls, r, M)
  | _ => none
def x_d1 (nx : Nat) (ls : xL) (st : List Value) (M : xM) : Option xC := match st with
  | v :: r => if v.category = 1 then some (nx, ls, v :: v :: r, M) else none
  | _ => none
def x_d2 (nx : Nat) (ls : xL) (st : List Value) (M : xM) : Option xC := match st with
  | v :: w :: r => if v.category = 1 ∧ w.category = 1 then some (nx, ls, v :: w :: v :: w :: r, M) else none
  | _ => none
def x_po (nx : Nat) (ls : xL) (st : List Value) (M : xM) : Option xC := match st with
  | v :: r => if v.category = 1 then some (nx, ls, r, M) else none
  | _ => none
/-- fields: numbers: class, how many fields it has, which, its type (0 int, 1 boolean, 2 long, 3 reference) -/
def x_fv (ty : Nat) (M : xM) (a j : Nat) : Value := match ty with
  | 0 => .int (M.2.1 a j)
  | 1 => .int (M.2.1 a j)
  | 2 => .long (M.2.2.1 a j)
  | _ => va_rf (M.2.2.2 a j)
def x_gf (nx ci n j ty : Nat) (ls : xL) (st : List Value) (M : xM) : Option xC := match st with
  | .ref a :: r => if M.1[a]? = some (false, ci, n) then some (nx, ls, x_fv ty M a j :: r, M) else none
  | _ => none
def x_pv (ty : Nat) (M : xM) (a j : Nat) (v : Value) : Option xM := match ty, v with
  | 0, .int x => some (M.1, x_u M.2.1 a j x, M.2.2)
  | 1, .int x => if x = 0 ∨ x = 1 then some (M.1, x_u M.2.1 a j x, M.2.2) else none
  | 2, .long x => some (M.1, M.2.1, x_u M.2.2.1 a j x, M.2.2.2)
  | 3, .ref x => some (M.1, M.2.1, M.2.2.1, x_u M.2.2.2 a j (some x))
  | 3, .null => some (M.1, M.2.1, M.2.2.1, x_u M.2.2.2 a j none)
  | _, _ => none
def x_pf (nx ci n j ty : Nat) (ls : xL) (st : List Value) (M : xM) : Option xC := match st with
  | v :: .ref a :: r => if M.1[a]? = some (false, ci, n) then (x_pv ty M a j v).map (fun M' => (nx, ls, r, M')) else none
  | _ => none
/-- arrays: element types: 0 int, 1 boolean, from 2 on references -/
def x_al (nx : Nat) (ls : xL) (st : List Value) (M : xM) (t : Nat) : Option xC := match st with
  | .int i :: .ref a :: r => match M.1[a]? with
    | some (true, t', n) => if t' = t ∧ ¬ i < 0 ∧ i.toNatClampNeg < n then some (nx, ls, .int (M.2.1 a i.toNatClampNeg) :: r, M) else none
    | _ => none
  | _ => none
def x_aq (nx : Nat) (ls : xL) (st : List Value) (M : xM) : Option xC := match st with
  | .int i :: .ref a :: r => match M.1[a]? with
    | some (true, t', n) => if 2 ≤ t' ∧ t' < 5 ∧ ¬ i < 0 ∧ i.toNatClampNeg < n then some (nx, ls, va_rf (M.2.2.2 a i.toNatClampNeg) :: r, M) else none
    | _ => none
  | _ => none
def x_as (nx : Nat) (ls : xL) (st : List Value) (M : xM) (t : Nat) : Option xC := match st with
  | .int x :: .int i :: .ref a :: r => match M.1[a]? with
    | some (true, t', n) => if t' = t ∧ ¬ i < 0 ∧ i.toNatClampNeg < n ∧ (t = 0 ∨ x = 0 ∨ x = 1) then some (nx, ls, r, (M.1, x_u M.2.1 a i.toNatClampNeg x, M.2.2)) else none
    | _ => none
  | _ => none
/-- aastore: the class of an array type's elements is x_ec -/
def x_sq (ec : Nat → Nat) (nx : Nat) (ls : xL) (st : List Value) (M : xM) : Option xC := match st with
  | .ref v :: .int i :: .ref a :: r => match M.1[a]?, M.1[v]? with
    | some (true, t', n), some (false, ci, _) => if 2 ≤ t' ∧ t' < 5 ∧ ec t' = ci ∧ ¬ i < 0 ∧ i.toNatClampNeg < n then some (nx, ls, r, (M.1, M.2.1, M.2.2.1, x_u M.2.2.2 a i.toNatClampNeg (some v))) else none
    | _, _ => none
  | .null :: .int i :: .ref a :: r => match M.1[a]? with
    | some (true, t', n) => if 2 ≤ t' ∧ t' < 5 ∧ ¬ i < 0 ∧ i.toNatClampNeg < n then some (nx, ls, r, (M.1, M.2.1, M.2.2.1, x_u M.2.2.2 a i.toNatClampNeg none)) else none
    | _ => none
  | _ => none
def x_ln (nx : Nat) (ls : xL) (st : List Value) (M : xM) : Option xC := match st with
  | .ref a :: r => match M.1[a]? with
    | some (true, 0, n) => some (nx, ls, .int (nI n) :: r, M)
    | _ => none
  | _ => none
def x_nw (nx ci n : Nat) (ls : xL) (st : List Value) (M : xM) : Option xC := some (nx, ls, .ref M.1.length :: st, x_new M (false, ci, n))
def x_na (nx t : Nat) (ls : xL) (st : List Value) (M : xM) : Option xC := match st with
  | .int n :: r => if ¬ n < 0 ∧ n.toNatClampNeg ≤ 65536 then some (nx, ls, .ref M.1.length :: r, x_new M (true, t, n.toNatClampNeg)) else none
  | _ => none
/-- checkcast, of an array of ints alone -/
def x_cc (nx : Nat) (ls : xL) (st : List Value) (M : xM) : Option xC := match st with
  | .ref a :: r => match M.1[a]? with
    | some (true, 0, _) => some (nx, ls, .ref a :: r, M)
    | _ => none
  | _ => none
/-- what a call does that is no call: 8: Object's constructor, 9: clone() of an array of ints -/
def x_iv (dp nx kd : Nat) (ls : xL) (st : List Value) (M : xM) : Option xC := match dp, kd, st with
  | _ + 1, 8, .ref _ :: r => if (r.map fun v => v.category).sum ≤ 8 then some (nx, ls, r, M) else none
  | _ + 1, 9, .ref a :: r => match M.1[a]? with
    | some (true, 0, n) => if (r.map fun v => v.category).sum ≤ 8 then some (nx, ls, .ref M.1.length :: r, x_dup M (true, 0, n) a) else none
    | _ => none
  | _, _, _ => none
/-- a step that stays in its frame -/
def x_st (ec : Nat → Nat) (dp : Nat) (e : xE) (ls : xL) (st : List Value) (M : xM) : Option xC := match e with
  | (ins, nx, c, xs) => match ins, xs with
  | .iconst _, _ => x_i1 nx ls st M (.int c)
  | .bipush _, _ => x_i1 nx ls st M (.int c)
  | .sipush _, _ => x_i1 nx ls st M (.int c)
  | .ldc _, _ => x_i1 nx ls st M (.int c)
  | .ldc_w _, _ => x_i1 nx ls st M (.int c)
  | .lconst n, _ => x_i1 nx ls st M (.long (lN n.val))
  | .aconst_null, _ => x_i1 nx ls st M .null
  | .iload_n _, [i] => x_ld nx i ls st M
  | .iload _, [i] => x_ld nx i ls st M
  | .aload_n _, [i] => x_la nx i ls st M
  | .aload _, [i] => x_la nx i ls st M
  | .istore_n _, [i] => x_si nx i ls st M
  | .istore _, [i] => x_si nx i ls st M
  | .astore_n _, [i] => x_sa nx i ls st M
  | .astore _, [i] => x_sa nx i ls st M
  | .iinc _ _, [i] => x_in nx i c ls st M
  | .iadd, _ => x_i2 nx ls st M (· + ·)
  | .isub, _ => x_i2 nx ls st M (· - ·)
  | .imul, _ => x_i2 nx ls st M (· * ·)
  | .iand, _ => x_i2 nx ls st M (· &&& ·)
  | .ior, _ => x_i2 nx ls st M (· ||| ·)
  | .ixor, _ => x_i2 nx ls st M (· ^^^ ·)
  | .ishl, _ => x_i2 nx ls st M (fun x y => x <<< (y &&& 31))
  | .ishr, _ => x_i2 nx ls st M (fun x y => x >>> (y &&& 31))
  | .iushr, _ => x_i2 nx ls st M (fun x y => (x.toUInt32 >>> (y.toUInt32 &&& Int32.toUInt32 31)).toInt32)
  | .idiv, _ => x_dv nx ls st M
  | .land, _ => x_l2 nx ls st M (· &&& ·)
  | .lor, _ => x_l2 nx ls st M (· ||| ·)
  | .lshl, _ => x_ls nx ls st M (· <<< ·)
  | .lshr, _ => x_ls nx ls st M (· >>> ·)
  | .lcmp, _ => x_lc nx ls st M
  | .ifCond .eq _, [t] => x_b1 nx t ls st M (fun x => decide (x = 0))
  | .ifCond .ne _, [t] => x_b1 nx t ls st M (fun x => decide (x ≠ 0))
  | .ifCond .lt _, [t] => x_b1 nx t ls st M (fun x => decide (x < 0))
  | .ifCond .ge _, [t] => x_b1 nx t ls st M (fun x => decide (0 ≤ x))
  | .ifCond .gt _, [t] => x_b1 nx t ls st M (fun x => decide (0 < x))
  | .ifCond .le _, [t] => x_b1 nx t ls st M (fun x => decide (x ≤ 0))
  | .if_icmp .eq _, [t] => x_b2 nx t ls st M (fun x y => decide (x = y))
  | .if_icmp .ne _, [t] => x_b2 nx t ls st M (fun x y => decide (x ≠ y))
  | .if_icmp .lt _, [t] => x_b2 nx t ls st M (fun x y => decide (x < y))
  | .if_icmp .ge _, [t] => x_b2 nx t ls st M (fun x y => decide (y ≤ x))
  | .if_icmp .gt _, [t] => x_b2 nx t ls st M (fun x y => decide (y < x))
  | .if_icmp .le _, [t] => x_b2 nx t ls st M (fun x y => decide (x ≤ y))
  | .goto _, [t] => some (t, ls, st, M)
  | .ifnull _, [t] => x_nu nx t ls st M
  | .ifnonnull _, [t] => x_nn nx t ls st M
  | .tableswitch _ _ _ _, lo :: t :: ts => x_ts lo t ts ls st M
  | .dup, _ => x_d1 nx ls st M
  | .dup2, _ => x_d2 nx ls st M
  | .pop, _ => x_po nx ls st M
  | .getfield _, [ci, n, j, ty] => x_gf nx ci n j ty ls st M
  | .putfield _, [ci, n, j, ty] => x_pf nx ci n j ty ls st M
  | .iaload, _ => x_al nx ls st M 0
  | .baload, _ => x_al nx ls st M 1
  | .aaload, _ => x_aq nx ls st M
  | .iastore, _ => x_as nx ls st M 0
  | .bastore, _ => x_as nx ls st M 1
  | .aastore, _ => x_sq ec nx ls st M
  | .arraylength, _ => x_ln nx ls st M
  | .new _, [ci, n] => x_nw nx ci n ls st M
  | .newarray _, [t] => x_na nx t ls st M
  | .anewarray _, [t] => x_na nx t ls st M
  | .checkcast _, _ => x_cc nx ls st M
  | .invokespecial _, [kd] => x_iv dp nx kd ls st M
  | .invokevirtual _, [kd] => x_iv dp nx kd ls st M
  | _, _ => none
/-- a call: numbers: how (0 virtual; 2 static; 3 constructor; 5, 6: static, constructor of a nest mate's private), whom, its class, how many values it takes, the receiver among them -/
def x_cl (e : xE) (st : List Value) (M : xM) : Option (Nat × List Value × List Value) := match e with
  | (ins, _, _, xs) => match ins, xs with
  | .invokevirtual _, [0, k, c, n] => if n ≤ st.length then (match (st.take n).reverse with
    | .ref a :: as => (match M.1[a]? with
      | some (false, ci, _) => if ci = c ∧ ((st.drop n).map fun v => v.category).sum ≤ 8 then some (k, .ref a :: as, st.drop n) else none
      | _ => none)
    | _ => none) else none
  | .invokestatic _, [_, k, _, n] => if n ≤ st.length ∧ ((st.drop n).map fun v => v.category).sum ≤ 8 then some (k, (st.take n).reverse, st.drop n) else none
  | .invokespecial _, [_, k, _, n] => if n ≤ st.length then (match (st.take n).reverse with
    | .ref a :: as => if ((st.drop n).map fun v => v.category).sum ≤ 8 then some (k, .ref a :: as, st.drop n) else none
    | _ => none) else none
  | _, _ => none
/-- the end of a frame; the number says what is to be returned: 0 nothing, 1 int, 2 boolean, 3 a reference -/
def x_rt (rk : Nat) (e : xE) (st : List Value) : Option (Option Value) := match e.1, rk, st with
  | .return_, 0, [] => some none
  | .ireturn, 1, [.int v] => some (some (.int v))
  | .ireturn, 2, [.int v] => if v = 0 ∨ v = 1 then some (some (.int v)) else none
  | .areturn, 3, [.ref v] => some (some (.ref v))
  | .areturn, 3, [.null] => some (some .null)
  | _, _, _ => none
