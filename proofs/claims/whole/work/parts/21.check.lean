/-! each entry of the linked code is what the bytes say, and its numbers are the tables' (by program) -/
def x_nA : List Nat := [0, 2, 2, 1, 3, 0, 0, 1, 1, 2, 0, 2, 1, 1, 2, 1, 1, 6, 6, 0, 0, 0, 1, 0, 1, 1, 4, 1, 0, 0, 1, 1, 2, 0, 5, 0, 0, 1, 1, 1, 1, 1, 1, 1, 1, 1, 1, 1, 0, 1, 1, 0, 0, 3, 0, 1, 1, 1, 0, 2, 1, 2, 0, 0, 3, 1, 1, 1, 1, 1, 0, 1, 1, 0, 3, 1, 2, 1, 1, 2, 1, 1, 1, 1, 1, 1, 1, 2, 0, 2, 2, 2, 2, 1, 1, 0, 3, 1, 2, 1, 1, 1, 2, 1, 1, 2, 2, 2, 3, 4, 6, 6, 1, 1, 1, 1, 2, 2, 1, 1, 2, 2, 1, 2, 1, 1, 1, 1, 1, 1, 1, 1, 2, 0, 2, 1, 2, 2, 2, 1, 1, 1, 1, 2, 2, 2]
def x_iL : List Nat := [1, 0, 0, 0, 0, 0, 1, 0, 0, 0, 1, 0, 0, 0, 0, 0, 0, 1, 1, 0, 0, 1, 0, 0, 0, 0, 1, 0, 0, 0, 0, 0, 0, 0, 0, 0, 0, 0, 0, 0, 0, 0, 0, 0, 0, 0, 0, 0, 0, 0, 0, 0, 0, 1, 1, 0, 0, 0, 0, 0, 1, 0, 0, 1, 0, 0, 0, 0, 0, 0, 0, 0, 0, 1, 0, 0, 0, 0, 0, 0, 0, 0, 0, 0, 0, 0, 0, 0, 0, 0, 0, 0, 0, 0, 0, 1, 0, 0, 0, 0, 0, 0, 0, 0, 0, 0, 0, 0, 0, 0, 0, 0, 0, 0, 0, 0, 0, 0, 0, 0, 0, 0, 0, 0, 0, 0, 0, 0, 0, 0, 0, 0, 0, 0, 0, 0, 0, 0, 0, 0, 0, 0, 0, 0, 0, 0]
def x_len : Instr → Nat
  | .bipush _ => 2
  | .iload _ => 2
  | .aload _ => 2
  | .istore _ => 2
  | .astore _ => 2
  | .ldc _ => 2
  | .newarray _ => 2
  | .tableswitch _ _ _ _ => 0
  | .sipush _ => 3
  | .ldc_w _ => 3
  | .iinc _ _ => 3
  | .ifCond _ _ => 3
  | .if_icmp _ _ => 3
  | .goto _ => 3
  | .ifnull _ => 3
  | .ifnonnull _ => 3
  | .getfield _ => 3
  | .putfield _ => 3
  | .new _ => 3
  | .anewarray _ => 3
  | .checkcast _ => 3
  | .invokespecial _ => 3
  | .invokestatic _ => 3
  | .invokevirtual _ => 3
  | _ => 1
def x_okn (own nL k pc : Nat) (c : Int32) (ins : Instr) (xs : List Nat) : Bool := match ins, xs with
  | .iconst n, _ => decide (Int32.ofInt n = c)
  | .bipush n, _ => decide ((Int8.ofInt n).toInt32 = c)
  | .sipush n, _ => decide ((Int16.ofInt n).toInt32 = c)
  | .ldc i, _ => decide ((own, i, c) ∈ x_lT)
  | .ldc_w i, _ => decide ((own, i, c) ∈ x_lT)
  | .iload_n n, [i] => decide (n.val = i)
  | .aload_n n, [i] => decide (n.val = i)
  | .iload n, [i] => decide (n = i)
  | .aload n, [i] => decide (n = i)
  | .istore_n n, [i] => decide (n.val = i ∧ i < nL)
  | .astore_n n, [i] => decide (n.val = i ∧ i < nL)
  | .istore n, [i] => decide (n = i ∧ i < nL)
  | .astore n, [i] => decide (n = i ∧ i < nL)
  | .iinc n v, [i] => decide (n = i ∧ Int32.ofInt v = c ∧ i < nL)
  | .ifCond _ off, [t] => decide ((pc : Int) + off = (t : Int))
  | .if_icmp _ off, [t] => decide ((pc : Int) + off = (t : Int))
  | .goto off, [t] => decide ((pc : Int) + off = (t : Int))
  | .ifnull off, [t] => decide ((pc : Int) + off = (t : Int))
  | .ifnonnull off, [t] => decide ((pc : Int) + off = (t : Int))
  | .tableswitch d lo hi offs, l :: t :: ts => decide (lo = (l : Int) ∧ (pc : Int) + d = (t : Int) ∧ hi + 1 - lo = (ts.length : Int) ∧ offs.toList.map (fun o => (pc : Int) + o) = ts.map (fun (x : Nat) => (x : Int)))
  | .getfield i, [ci, n, j, ty] => decide ((own, i, ci, n, j, ty) ∈ x_fT)
  | .putfield i, [ci, n, j, ty] => decide ((own, i, ci, n, j, ty) ∈ x_fT ∧ ((xT ci j).2.2.2 = true → own = ci ∧ x_iL.getD k 0 = 1))
  | .new i, [ci, n] => decide ((own, i, ci, n) ∈ x_nT)
  | .newarray a, [t] => decide ((a = .int ∧ t = 0) ∨ (a = .boolean ∧ t = 1))
  | .anewarray i, [t] => decide ((own, i, t) ∈ x_qT)
  | .checkcast i, _ => decide ((own, i) ∈ x_hT)
  | .invokespecial i, [kd] => decide (kd = 8 ∧ (own, i) ∈ x_oT)
  | .invokevirtual i, [kd] => decide (kd = 9 ∧ (own, i) ∈ x_kT)
  | .invokevirtual i, [kd, k', ci, na] => decide (kd = 0 ∧ (own, i, kd, k') ∈ x_cT ∧ ci = (x_m k').2.2.2 ∧ na = x_nA.getD k' 0 + 1 ∧ x_sL.getD k' 0 = 0 ∧ x_iL.getD k' 0 = 0 ∧ ci < 11)
  | .invokestatic i, [kd, k', ci, na] => decide ((kd = 2 ∨ kd = 5) ∧ (own, i, kd, k') ∈ x_cT ∧ ci = (x_m k').2.2.2 ∧ na = x_nA.getD k' 0 ∧ x_sL.getD k' 0 = 1)
  | .invokespecial i, [kd, k', ci, na] => decide ((kd = 3 ∨ kd = 6) ∧ (own, i, kd, k') ∈ x_cT ∧ ci = (x_m k').2.2.2 ∧ na = x_nA.getD k' 0 + 1 ∧ x_sL.getD k' 0 = 0 ∧ x_iL.getD k' 0 = 1)
  | .aconst_null, _ => true
  | .lconst _, _ => true
  | .iadd, _ => true
  | .isub, _ => true
  | .imul, _ => true
  | .idiv, _ => true
  | .iand, _ => true
  | .ior, _ => true
  | .ixor, _ => true
  | .ishl, _ => true
  | .ishr, _ => true
  | .iushr, _ => true
  | .land, _ => true
  | .lor, _ => true
  | .lshl, _ => true
  | .lshr, _ => true
  | .lcmp, _ => true
  | .dup, _ => true
  | .dup2, _ => true
  | .pop, _ => true
  | .iaload, _ => true
  | .baload, _ => true
  | .aaload, _ => true
  | .iastore, _ => true
  | .bastore, _ => true
  | .aastore, _ => true
  | .arraylength, _ => true
  | .ireturn, _ => true
  | .areturn, _ => true
  | .return_, _ => true
  | _, _ => false
def x_okb (k pc : Nat) (e : xE) : Bool := decide (decode (x_b k) pc = .ok (e.1, e.2.1 - pc)) && decide (x_len e.1 = 0 ∨ e.2.1 = pc + x_len e.1) && x_okn (x_m k).2.2.2 (x_nL k) k pc e.2.2.1 e.1 e.2.2.2
def x_okT (k : Nat) : Nat → List (Option xE) → Bool
  | _, [] => true
  | pc, none :: l => x_okT k (pc + 1) l
  | pc, some e :: l => x_okb k pc e && x_okT k (pc + 1) l
theorem x_okT_at {k : Nat} : ∀ (l : List (Option xE)) (p i : Nat) (e : xE), x_okT k p l = true → l[i]? = some (some e) → x_okb k (p + i) e = true := by
  intro l
  induction l with
  | nil => intro p i e _ h; simp at h
  | cons o l ih =>
    intro p i e h hi
    cases i with
    | zero =>
      simp at hi
      subst hi
      simp only [x_okT, Bool.and_eq_true] at h
      exact h.1
    | succ i =>
      simp at hi
      cases o with
      | none => simp only [x_okT] at h; have := ih (p + 1) i e h hi; rwa [show p + 1 + i = p + (i + 1) by omega] at this
      | some e' => simp only [x_okT, Bool.and_eq_true] at h; have := ih (p + 1) i e h.2 hi; rwa [show p + 1 + i = p + (i + 1) by omega] at this
set_option maxRecDepth 20000 in
theorem x_ck0 : x_okT 0 0 x_T0 = true := by decide +kernel
set_option maxRecDepth 20000 in
theorem x_ck1 : x_okT 1 0 x_T1 = true := by decide +kernel
set_option maxRecDepth 20000 in
theorem x_ck2 : x_okT 2 0 x_T2 = true := by decide +kernel
set_option maxRecDepth 20000 in
theorem x_ck3 : x_okT 3 0 x_T3 = true := by decide +kernel
set_option maxRecDepth 20000 in
theorem x_ck4 : x_okT 4 0 x_T4 = true := by decide +kernel
set_option maxRecDepth 20000 in
theorem x_ck5 : x_okT 5 0 x_T5 = true := by decide +kernel
set_option maxRecDepth 20000 in
theorem x_ck6 : x_okT 6 0 x_T6 = true := by decide +kernel
set_option maxRecDepth 20000 in
theorem x_ck7 : x_okT 7 0 x_T7 = true := by decide +kernel
set_option maxRecDepth 20000 in
theorem x_ck8 : x_okT 8 0 x_T8 = true := by decide +kernel
set_option maxRecDepth 20000 in
theorem x_ck9 : x_okT 9 0 x_T9 = true := by decide +kernel
set_option maxRecDepth 20000 in
theorem x_ck10 : x_okT 10 0 x_T10 = true := by decide +kernel
set_option maxRecDepth 20000 in
theorem x_ck11 : x_okT 11 0 x_T11 = true := by decide +kernel
set_option maxRecDepth 20000 in
theorem x_ck12 : x_okT 12 0 x_T12 = true := by decide +kernel
set_option maxRecDepth 20000 in
theorem x_ck13 : x_okT 13 0 x_T13 = true := by decide +kernel
set_option maxRecDepth 20000 in
theorem x_ck14 : x_okT 14 0 x_T14 = true := by decide +kernel
set_option maxRecDepth 20000 in
theorem x_ck15 : x_okT 15 0 x_T15 = true := by decide +kernel
set_option maxRecDepth 20000 in
theorem x_ck16 : x_okT 16 0 x_T16 = true := by decide +kernel
set_option maxRecDepth 20000 in
theorem x_ck17 : x_okT 17 0 x_T17 = true := by decide +kernel
set_option maxRecDepth 20000 in
theorem x_ck18 : x_okT 18 0 x_T18 = true := by decide +kernel
set_option maxRecDepth 20000 in
theorem x_ck19 : x_okT 19 0 x_T19 = true := by decide +kernel
set_option maxRecDepth 20000 in
theorem x_ck20 : x_okT 20 0 x_T20 = true := by decide +kernel
set_option maxRecDepth 20000 in
theorem x_ck21 : x_okT 21 0 x_T21 = true := by decide +kernel
set_option maxRecDepth 20000 in
theorem x_ck22 : x_okT 22 0 x_T22 = true := by decide +kernel
set_option maxRecDepth 20000 in
theorem x_ck23 : x_okT 23 0 x_T23 = true := by decide +kernel
set_option maxRecDepth 20000 in
theorem x_ck24 : x_okT 24 0 x_T24 = true := by decide +kernel
set_option maxRecDepth 20000 in
theorem x_ck25 : x_okT 25 0 x_T25 = true := by decide +kernel
set_option maxRecDepth 20000 in
theorem x_ck26 : x_okT 26 0 x_T26 = true := by decide +kernel
set_option maxRecDepth 20000 in
theorem x_ck27 : x_okT 27 0 x_T27 = true := by decide +kernel
set_option maxRecDepth 20000 in
theorem x_ck28 : x_okT 28 0 x_T28 = true := by decide +kernel
set_option maxRecDepth 20000 in
theorem x_ck29 : x_okT 29 0 x_T29 = true := by decide +kernel
set_option maxRecDepth 20000 in
theorem x_ck30 : x_okT 30 0 x_T30 = true := by decide +kernel
set_option maxRecDepth 20000 in
theorem x_ck31 : x_okT 31 0 x_T31 = true := by decide +kernel
set_option maxRecDepth 20000 in
theorem x_ck32 : x_okT 32 0 x_T32 = true := by decide +kernel
set_option maxRecDepth 20000 in
theorem x_ck33 : x_okT 33 0 x_T33 = true := by decide +kernel
set_option maxRecDepth 20000 in
theorem x_ck34 : x_okT 34 0 x_T34 = true := by decide +kernel
set_option maxRecDepth 20000 in
theorem x_ck35 : x_okT 35 0 x_T35 = true := by decide +kernel
set_option maxRecDepth 20000 in
theorem x_ck36 : x_okT 36 0 x_T36 = true := by decide +kernel
set_option maxRecDepth 20000 in
theorem x_ck37 : x_okT 37 0 x_T37 = true := by decide +kernel
set_option maxRecDepth 20000 in
theorem x_ck38 : x_okT 38 0 x_T38 = true := by decide +kernel
set_option maxRecDepth 20000 in
theorem x_ck39 : x_okT 39 0 x_T39 = true := by decide +kernel
set_option maxRecDepth 20000 in
theorem x_ck40 : x_okT 40 0 x_T40 = true := by decide +kernel
set_option maxRecDepth 20000 in
theorem x_ck41 : x_okT 41 0 x_T41 = true := by decide +kernel
set_option maxRecDepth 20000 in
theorem x_ck42 : x_okT 42 0 x_T42 = true := by decide +kernel
set_option maxRecDepth 20000 in
theorem x_ck43 : x_okT 43 0 x_T43 = true := by decide +kernel
set_option maxRecDepth 20000 in
theorem x_ck44 : x_okT 44 0 x_T44 = true := by decide +kernel
set_option maxRecDepth 20000 in
theorem x_ck45 : x_okT 45 0 x_T45 = true := by decide +kernel
set_option maxRecDepth 20000 in
theorem x_ck46 : x_okT 46 0 x_T46 = true := by decide +kernel
set_option maxRecDepth 20000 in
theorem x_ck47 : x_okT 47 0 x_T47 = true := by decide +kernel
set_option maxRecDepth 20000 in
theorem x_ck48 : x_okT 48 0 x_T48 = true := by decide +kernel
set_option maxRecDepth 20000 in
theorem x_ck49 : x_okT 49 0 x_T49 = true := by decide +kernel
set_option maxRecDepth 20000 in
theorem x_ck50 : x_okT 50 0 x_T50 = true := by decide +kernel
set_option maxRecDepth 20000 in
theorem x_ck51 : x_okT 51 0 x_T51 = true := by decide +kernel
set_option maxRecDepth 20000 in
theorem x_ck52 : x_okT 52 0 x_T52 = true := by decide +kernel
set_option maxRecDepth 20000 in
theorem x_ck53 : x_okT 53 0 x_T53 = true := by decide +kernel
set_option maxRecDepth 20000 in
theorem x_ck54 : x_okT 54 0 x_T54 = true := by decide +kernel
set_option maxRecDepth 20000 in
theorem x_ck55 : x_okT 55 0 x_T55 = true := by decide +kernel
set_option maxRecDepth 20000 in
theorem x_ck56 : x_okT 56 0 x_T56 = true := by decide +kernel
set_option maxRecDepth 20000 in
theorem x_ck57 : x_okT 57 0 x_T57 = true := by decide +kernel
set_option maxRecDepth 20000 in
theorem x_ck58 : x_okT 58 0 x_T58 = true := by decide +kernel
set_option maxRecDepth 20000 in
theorem x_ck59 : x_okT 59 0 x_T59 = true := by decide +kernel
set_option maxRecDepth 20000 in
theorem x_ck60 : x_okT 60 0 x_T60 = true := by decide +kernel
set_option maxRecDepth 20000 in
theorem x_ck61 : x_okT 61 0 x_T61 = true := by decide +kernel
set_option maxRecDepth 20000 in
theorem x_ck62 : x_okT 62 0 x_T62 = true := by decide +kernel
set_option maxRecDepth 20000 in
theorem x_ck63 : x_okT 63 0 x_T63 = true := by decide +kernel
set_option maxRecDepth 20000 in
theorem x_ck64 : x_okT 64 0 x_T64 = true := by decide +kernel
set_option maxRecDepth 20000 in
theorem x_ck65 : x_okT 65 0 x_T65 = true := by decide +kernel
set_option maxRecDepth 20000 in
theorem x_ck66 : x_okT 66 0 x_T66 = true := by decide +kernel
set_option maxRecDepth 20000 in
theorem x_ck67 : x_okT 67 0 x_T67 = true := by decide +kernel
set_option maxRecDepth 20000 in
theorem x_ck68 : x_okT 68 0 x_T68 = true := by decide +kernel
set_option maxRecDepth 20000 in
theorem x_ck69 : x_okT 69 0 x_T69 = true := by decide +kernel
set_option maxRecDepth 20000 in
theorem x_ck70 : x_okT 70 0 x_T70 = true := by decide +kernel
set_option maxRecDepth 20000 in
theorem x_ck71 : x_okT 71 0 x_T71 = true := by decide +kernel
set_option maxRecDepth 20000 in
theorem x_ck72 : x_okT 72 0 x_T72 = true := by decide +kernel
set_option maxRecDepth 20000 in
theorem x_ck73 : x_okT 73 0 x_T73 = true := by decide +kernel
set_option maxRecDepth 20000 in
theorem x_ck74 : x_okT 74 0 x_T74 = true := by decide +kernel
set_option maxRecDepth 20000 in
theorem x_ck75 : x_okT 75 0 x_T75 = true := by decide +kernel
set_option maxRecDepth 20000 in
theorem x_ck76 : x_okT 76 0 x_T76 = true := by decide +kernel
set_option maxRecDepth 20000 in
theorem x_ck77 : x_okT 77 0 x_T77 = true := by decide +kernel
set_option maxRecDepth 20000 in
theorem x_ck78 : x_okT 78 0 x_T78 = true := by decide +kernel
set_option maxRecDepth 20000 in
theorem x_ck79 : x_okT 79 0 x_T79 = true := by decide +kernel
set_option maxRecDepth 20000 in
theorem x_ck80 : x_okT 80 0 x_T80 = true := by decide +kernel
set_option maxRecDepth 20000 in
theorem x_ck81 : x_okT 81 0 x_T81 = true := by decide +kernel
set_option maxRecDepth 20000 in
theorem x_ck82 : x_okT 82 0 x_T82 = true := by decide +kernel
set_option maxRecDepth 20000 in
theorem x_ck83 : x_okT 83 0 x_T83 = true := by decide +kernel
set_option maxRecDepth 20000 in
theorem x_ck84 : x_okT 84 0 x_T84 = true := by decide +kernel
set_option maxRecDepth 20000 in
theorem x_ck85 : x_okT 85 0 x_T85 = true := by decide +kernel
set_option maxRecDepth 20000 in
theorem x_ck86 : x_okT 86 0 x_T86 = true := by decide +kernel
set_option maxRecDepth 20000 in
theorem x_ck87 : x_okT 87 0 x_T87 = true := by decide +kernel
set_option maxRecDepth 20000 in
theorem x_ck88 : x_okT 88 0 x_T88 = true := by decide +kernel
set_option maxRecDepth 20000 in
theorem x_ck89 : x_okT 89 0 x_T89 = true := by decide +kernel
set_option maxRecDepth 20000 in
theorem x_ck90 : x_okT 90 0 x_T90 = true := by decide +kernel
set_option maxRecDepth 20000 in
theorem x_ck91 : x_okT 91 0 x_T91 = true := by decide +kernel
set_option maxRecDepth 20000 in
theorem x_ck92 : x_okT 92 0 x_T92 = true := by decide +kernel
set_option maxRecDepth 20000 in
theorem x_ck93 : x_okT 93 0 x_T93 = true := by decide +kernel
set_option maxRecDepth 20000 in
theorem x_ck94 : x_okT 94 0 x_T94 = true := by decide +kernel
set_option maxRecDepth 20000 in
theorem x_ck95 : x_okT 95 0 x_T95 = true := by decide +kernel
set_option maxRecDepth 20000 in
theorem x_ck96 : x_okT 96 0 x_T96 = true := by decide +kernel
set_option maxRecDepth 20000 in
theorem x_ck97 : x_okT 97 0 x_T97 = true := by decide +kernel
set_option maxRecDepth 20000 in
theorem x_ck98 : x_okT 98 0 x_T98 = true := by decide +kernel
set_option maxRecDepth 20000 in
theorem x_ck99 : x_okT 99 0 x_T99 = true := by decide +kernel
set_option maxRecDepth 20000 in
theorem x_ck100 : x_okT 100 0 x_T100 = true := by decide +kernel
set_option maxRecDepth 20000 in
theorem x_ck101 : x_okT 101 0 x_T101 = true := by decide +kernel
set_option maxRecDepth 20000 in
theorem x_ck102 : x_okT 102 0 x_T102 = true := by decide +kernel
set_option maxRecDepth 20000 in
theorem x_ck103 : x_okT 103 0 x_T103 = true := by decide +kernel
set_option maxRecDepth 20000 in
theorem x_ck104 : x_okT 104 0 x_T104 = true := by decide +kernel
set_option maxRecDepth 20000 in
theorem x_ck105 : x_okT 105 0 x_T105 = true := by decide +kernel
set_option maxRecDepth 20000 in
theorem x_ck106 : x_okT 106 0 x_T106 = true := by decide +kernel
set_option maxRecDepth 20000 in
theorem x_ck107 : x_okT 107 0 x_T107 = true := by decide +kernel
set_option maxRecDepth 20000 in
theorem x_ck108 : x_okT 108 0 x_T108 = true := by decide +kernel
set_option maxRecDepth 20000 in
theorem x_ck109 : x_okT 109 0 x_T109 = true := by decide +kernel
set_option maxRecDepth 20000 in
theorem x_ck110 : x_okT 110 0 x_T110 = true := by decide +kernel
set_option maxRecDepth 20000 in
theorem x_ck111 : x_okT 111 0 x_T111 = true := by decide +kernel
set_option maxRecDepth 20000 in
theorem x_ck112 : x_okT 112 0 x_T112 = true := by decide +kernel
set_option maxRecDepth 20000 in
theorem x_ck113 : x_okT 113 0 x_T113 = true := by decide +kernel
set_option maxRecDepth 20000 in
theorem x_ck114 : x_okT 114 0 x_T114 = true := by decide +kernel
set_option maxRecDepth 20000 in
theorem x_ck115 : x_okT 115 0 x_T115 = true := by decide +kernel
set_option maxRecDepth 20000 in
theorem x_ck116 : x_okT 116 0 x_T116 = true := by decide +kernel
set_option maxRecDepth 20000 in
theorem x_ck117 : x_okT 117 0 x_T117 = true := by decide +kernel
set_option maxRecDepth 20000 in
theorem x_ck118 : x_okT 118 0 x_T118 = true := by decide +kernel
set_option maxRecDepth 20000 in
theorem x_ck119 : x_okT 119 0 x_T119 = true := by decide +kernel
set_option maxRecDepth 20000 in
theorem x_ck120 : x_okT 120 0 x_T120 = true := by decide +kernel
set_option maxRecDepth 20000 in
theorem x_ck121 : x_okT 121 0 x_T121 = true := by decide +kernel
set_option maxRecDepth 20000 in
theorem x_ck122 : x_okT 122 0 x_T122 = true := by decide +kernel
set_option maxRecDepth 20000 in
theorem x_ck123 : x_okT 123 0 x_T123 = true := by decide +kernel
set_option maxRecDepth 20000 in
theorem x_ck124 : x_okT 124 0 x_T124 = true := by decide +kernel
set_option maxRecDepth 20000 in
theorem x_ck125 : x_okT 125 0 x_T125 = true := by decide +kernel
set_option maxRecDepth 20000 in
theorem x_ck126 : x_okT 126 0 x_T126 = true := by decide +kernel
set_option maxRecDepth 20000 in
theorem x_ck127 : x_okT 127 0 x_T127 = true := by decide +kernel
set_option maxRecDepth 20000 in
theorem x_ck128 : x_okT 128 0 x_T128 = true := by decide +kernel
set_option maxRecDepth 20000 in
theorem x_ck129 : x_okT 129 0 x_T129 = true := by decide +kernel
set_option maxRecDepth 20000 in
theorem x_ck130 : x_okT 130 0 x_T130 = true := by decide +kernel
set_option maxRecDepth 20000 in
theorem x_ck131 : x_okT 131 0 x_T131 = true := by decide +kernel
set_option maxRecDepth 20000 in
theorem x_ck132 : x_okT 132 0 x_T132 = true := by decide +kernel
set_option maxRecDepth 20000 in
theorem x_ck133 : x_okT 133 0 x_T133 = true := by decide +kernel
set_option maxRecDepth 20000 in
theorem x_ck134 : x_okT 134 0 x_T134 = true := by decide +kernel
set_option maxRecDepth 20000 in
theorem x_ck135 : x_okT 135 0 x_T135 = true := by decide +kernel
set_option maxRecDepth 20000 in
theorem x_ck136 : x_okT 136 0 x_T136 = true := by decide +kernel
set_option maxRecDepth 20000 in
theorem x_ck137 : x_okT 137 0 x_T137 = true := by decide +kernel
set_option maxRecDepth 20000 in
theorem x_ck138 : x_okT 138 0 x_T138 = true := by decide +kernel
set_option maxRecDepth 20000 in
theorem x_ck139 : x_okT 139 0 x_T139 = true := by decide +kernel
set_option maxRecDepth 20000 in
theorem x_ck140 : x_okT 140 0 x_T140 = true := by decide +kernel
set_option maxRecDepth 20000 in
theorem x_ck141 : x_okT 141 0 x_T141 = true := by decide +kernel
set_option maxRecDepth 20000 in
theorem x_ck142 : x_okT 142 0 x_T142 = true := by decide +kernel
set_option maxRecDepth 20000 in
theorem x_ck143 : x_okT 143 0 x_T143 = true := by decide +kernel
set_option maxRecDepth 20000 in
theorem x_ck144 : x_okT 144 0 x_T144 = true := by decide +kernel
set_option maxRecDepth 20000 in
theorem x_ck145 : x_okT 145 0 x_T145 = true := by decide +kernel
theorem x_ck : ∀ (k pc : Nat) (e : xE), x_P k pc = some e → x_okb k pc e = true ∧ k < 146 := by
  have h : ∀ q ∈ List.zip (List.range 146) x_TL, x_okT q.1 0 q.2 = true := List.forall_mem_cons.mpr ⟨x_ck0, List.forall_mem_cons.mpr ⟨x_ck1, List.forall_mem_cons.mpr ⟨x_ck2, List.forall_mem_cons.mpr ⟨x_ck3, List.forall_mem_cons.mpr ⟨x_ck4, List.forall_mem_cons.mpr ⟨x_ck5, List.forall_mem_cons.mpr ⟨x_ck6, List.forall_mem_cons.mpr ⟨x_ck7, List.forall_mem_cons.mpr ⟨x_ck8, List.forall_mem_cons.mpr ⟨x_ck9, List.forall_mem_cons.mpr ⟨x_ck10, List.forall_mem_cons.mpr ⟨x_ck11, List.forall_mem_cons.mpr ⟨x_ck12, List.forall_mem_cons.mpr ⟨x_ck13, List.forall_mem_cons.mpr ⟨x_ck14, List.forall_mem_cons.mpr ⟨x_ck15, List.forall_mem_cons.mpr ⟨x_ck16, List.forall_mem_cons.mpr ⟨x_ck17, List.forall_mem_cons.mpr ⟨x_ck18, List.forall_mem_cons.mpr ⟨x_ck19, List.forall_mem_cons.mpr ⟨x_ck20, List.forall_mem_cons.mpr ⟨x_ck21, List.forall_mem_cons.mpr ⟨x_ck22, List.forall_mem_cons.mpr ⟨x_ck23, List.forall_mem_cons.mpr ⟨x_ck24, List.forall_mem_cons.mpr ⟨x_ck25, List.forall_mem_cons.mpr ⟨x_ck26, List.forall_mem_cons.mpr ⟨x_ck27, List.forall_mem_cons.mpr ⟨x_ck28, List.forall_mem_cons.mpr ⟨x_ck29, List.forall_mem_cons.mpr ⟨x_ck30, List.forall_mem_cons.mpr ⟨x_ck31, List.forall_mem_cons.mpr ⟨x_ck32, List.forall_mem_cons.mpr ⟨x_ck33, List.forall_mem_cons.mpr ⟨x_ck34, List.forall_mem_cons.mpr ⟨x_ck35, List.forall_mem_cons.mpr ⟨x_ck36, List.forall_mem_cons.mpr ⟨x_ck37, List.forall_mem_cons.mpr ⟨x_ck38, List.forall_mem_cons.mpr ⟨x_ck39, List.forall_mem_cons.mpr ⟨x_ck40, List.forall_mem_cons.mpr ⟨x_ck41, List.forall_mem_cons.mpr ⟨x_ck42, List.forall_mem_cons.mpr ⟨x_ck43, List.forall_mem_cons.mpr ⟨x_ck44, List.forall_mem_cons.mpr ⟨x_ck45, List.forall_mem_cons.mpr ⟨x_ck46, List.forall_mem_cons.mpr ⟨x_ck47, List.forall_mem_cons.mpr ⟨x_ck48, List.forall_mem_cons.mpr ⟨x_ck49, List.forall_mem_cons.mpr ⟨x_ck50, List.forall_mem_cons.mpr ⟨x_ck51, List.forall_mem_cons.mpr ⟨x_ck52, List.forall_mem_cons.mpr ⟨x_ck53, List.forall_mem_cons.mpr ⟨x_ck54, List.forall_mem_cons.mpr ⟨x_ck55, List.forall_mem_cons.mpr ⟨x_ck56, List.forall_mem_cons.mpr ⟨x_ck57, List.forall_mem_cons.mpr ⟨x_ck58, List.forall_mem_cons.mpr ⟨x_ck59, List.forall_mem_cons.mpr ⟨x_ck60, List.forall_mem_cons.mpr ⟨x_ck61, List.forall_mem_cons.mpr ⟨x_ck62, List.forall_mem_cons.mpr ⟨x_ck63, List.forall_mem_cons.mpr ⟨x_ck64, List.forall_mem_cons.mpr ⟨x_ck65, List.forall_mem_cons.mpr ⟨x_ck66, List.forall_mem_cons.mpr ⟨x_ck67, List.forall_mem_cons.mpr ⟨x_ck68, List.forall_mem_cons.mpr ⟨x_ck69, List.forall_mem_cons.mpr ⟨x_ck70, List.forall_mem_cons.mpr ⟨x_ck71, List.forall_mem_cons.mpr ⟨x_ck72, List.forall_mem_cons.mpr ⟨x_ck73, List.forall_mem_cons.mpr ⟨x_ck74, List.forall_mem_cons.mpr ⟨x_ck75, List.forall_mem_cons.mpr ⟨x_ck76, List.forall_mem_cons.mpr ⟨x_ck77, List.forall_mem_cons.mpr ⟨x_ck78, List.forall_mem_cons.mpr ⟨x_ck79, List.forall_mem_cons.mpr ⟨x_ck80, List.forall_mem_cons.mpr ⟨x_ck81, List.forall_mem_cons.mpr ⟨x_ck82, List.forall_mem_cons.mpr ⟨x_ck83, List.forall_mem_cons.mpr ⟨x_ck84, List.forall_mem_cons.mpr ⟨x_ck85, List.forall_mem_cons.mpr ⟨x_ck86, List.forall_mem_cons.mpr ⟨x_ck87, List.forall_mem_cons.mpr ⟨x_ck88, List.forall_mem_cons.mpr ⟨x_ck89, List.forall_mem_cons.mpr ⟨x_ck90, List.forall_mem_cons.mpr ⟨x_ck91, List.forall_mem_cons.mpr ⟨x_ck92, List.forall_mem_cons.mpr ⟨x_ck93, List.forall_mem_cons.mpr ⟨x_ck94, List.forall_mem_cons.mpr ⟨x_ck95, List.forall_mem_cons.mpr ⟨x_ck96, List.forall_mem_cons.mpr ⟨x_ck97, List.forall_mem_cons.mpr ⟨x_ck98, List.forall_mem_cons.mpr ⟨x_ck99, List.forall_mem_cons.mpr ⟨x_ck100, List.forall_mem_cons.mpr ⟨x_ck101, List.forall_mem_cons.mpr ⟨x_ck102, List.forall_mem_cons.mpr ⟨x_ck103, List.forall_mem_cons.mpr ⟨x_ck104, List.forall_mem_cons.mpr ⟨x_ck105, List.forall_mem_cons.mpr ⟨x_ck106, List.forall_mem_cons.mpr ⟨x_ck107, List.forall_mem_cons.mpr ⟨x_ck108, List.forall_mem_cons.mpr ⟨x_ck109, List.forall_mem_cons.mpr ⟨x_ck110, List.forall_mem_cons.mpr ⟨x_ck111, List.forall_mem_cons.mpr ⟨x_ck112, List.forall_mem_cons.mpr ⟨x_ck113, List.forall_mem_cons.mpr ⟨x_ck114, List.forall_mem_cons.mpr ⟨x_ck115, List.forall_mem_cons.mpr ⟨x_ck116, List.forall_mem_cons.mpr ⟨x_ck117, List.forall_mem_cons.mpr ⟨x_ck118, List.forall_mem_cons.mpr ⟨x_ck119, List.forall_mem_cons.mpr ⟨x_ck120, List.forall_mem_cons.mpr ⟨x_ck121, List.forall_mem_cons.mpr ⟨x_ck122, List.forall_mem_cons.mpr ⟨x_ck123, List.forall_mem_cons.mpr ⟨x_ck124, List.forall_mem_cons.mpr ⟨x_ck125, List.forall_mem_cons.mpr ⟨x_ck126, List.forall_mem_cons.mpr ⟨x_ck127, List.forall_mem_cons.mpr ⟨x_ck128, List.forall_mem_cons.mpr ⟨x_ck129, List.forall_mem_cons.mpr ⟨x_ck130, List.forall_mem_cons.mpr ⟨x_ck131, List.forall_mem_cons.mpr ⟨x_ck132, List.forall_mem_cons.mpr ⟨x_ck133, List.forall_mem_cons.mpr ⟨x_ck134, List.forall_mem_cons.mpr ⟨x_ck135, List.forall_mem_cons.mpr ⟨x_ck136, List.forall_mem_cons.mpr ⟨x_ck137, List.forall_mem_cons.mpr ⟨x_ck138, List.forall_mem_cons.mpr ⟨x_ck139, List.forall_mem_cons.mpr ⟨x_ck140, List.forall_mem_cons.mpr ⟨x_ck141, List.forall_mem_cons.mpr ⟨x_ck142, List.forall_mem_cons.mpr ⟨x_ck143, List.forall_mem_cons.mpr ⟨x_ck144, List.forall_mem_cons.mpr ⟨x_ck145, fun _ h => absurd h List.not_mem_nil⟩⟩⟩⟩⟩⟩⟩⟩⟩⟩⟩⟩⟩⟩⟩⟩⟩⟩⟩⟩⟩⟩⟩⟩⟩⟩⟩⟩⟩⟩⟩⟩⟩⟩⟩⟩⟩⟩⟩⟩⟩⟩⟩⟩⟩⟩⟩⟩⟩⟩⟩⟩⟩⟩⟩⟩⟩⟩⟩⟩⟩⟩⟩⟩⟩⟩⟩⟩⟩⟩⟩⟩⟩⟩⟩⟩⟩⟩⟩⟩⟩⟩⟩⟩⟩⟩⟩⟩⟩⟩⟩⟩⟩⟩⟩⟩⟩⟩⟩⟩⟩⟩⟩⟩⟩⟩⟩⟩⟩⟩⟩⟩⟩⟩⟩⟩⟩⟩⟩⟩⟩⟩⟩⟩⟩⟩⟩⟩⟩⟩⟩⟩⟩⟩⟩⟩⟩⟩⟩⟩⟩⟩⟩⟩⟩⟩
  intro k pc e he
  unfold x_P at he
  cases hl : x_TL[k]? with
  | none => rw [hl] at he; simp at he
  | some l =>
    rw [hl] at he
    simp only [Option.getD_some] at he
    cases hq : l[pc]? with
    | none => rw [hq] at he; simp at he
    | some o =>
      rw [hq] at he
      simp only [Option.getD_some] at he
      subst he
      have hk : k < 146 := (List.getElem?_eq_some_iff.mp hl).1
      have h2 : (List.zip (List.range 146) x_TL)[k]? = some (k, l) := by
        rw [List.zip_eq_zipWith, List.getElem?_zipWith, hl]
        simp [hk]
      have h3 := x_okT_at l 0 pc e (h (k, l) (List.mem_of_getElem? h2)) hq
      rw [Nat.zero_add] at h3
      exact ⟨h3, hk⟩
/-- what is fixed of a method -/
def x_gok (k : Nat) : Prop := (x_m k).1.cls = xR (x_m k).2.2.2 ∧ plainFor (x_m k).1 = true ∧ ((x_m k).1.cls ≠ "java/lang/invoke/MethodHandle" ∧ (x_m k).1.cls ≠ "java/lang/invoke/VarHandle" ∧ (parseMethodDescriptor (x_m k).1.desc).map (fun d => d.parameters.length) = some (x_nA.getD k 0)) ∧ (x_iL.getD k 0 = 1 → (x_m k).1.name = "<init>" ∧ (x_m k).2.2.1 = none) ∧ (x_iL.getD k 0 = 0 → (x_m k).1.name ≠ "<init>") ∧ x_nL k ≤ 18 ∧ (x_rk k = 0 → (x_m k).2.2.1 = none) ∧ (x_rk k = 1 → (x_m k).2.2.1 = some .int) ∧ (x_rk k = 2 → (x_m k).2.2.1 = some .boolean) ∧ (x_rk k = 3 → ∃ s, (x_m k).2.2.1 = some (.object s))
theorem x_gok0 : x_gok 0 := ⟨rfl, by decide +kernel, ⟨by decide +kernel, by decide +kernel, by decide +kernel⟩, fun _ => ⟨rfl, rfl⟩, fun h => absurd h (by decide), by decide, fun _ => rfl, fun h => absurd h (by decide), fun h => absurd h (by decide), fun h => absurd h (by decide)⟩
theorem x_gok1 : x_gok 1 := ⟨rfl, by decide +kernel, ⟨by decide +kernel, by decide +kernel, by decide +kernel⟩, fun h => absurd h (by decide), fun _ => by decide +kernel, by decide, fun _ => rfl, fun h => absurd h (by decide), fun h => absurd h (by decide), fun h => absurd h (by decide)⟩
theorem x_gok2 : x_gok 2 := ⟨rfl, by decide +kernel, ⟨by decide +kernel, by decide +kernel, by decide +kernel⟩, fun h => absurd h (by decide), fun _ => by decide +kernel, by decide, fun _ => rfl, fun h => absurd h (by decide), fun h => absurd h (by decide), fun h => absurd h (by decide)⟩
theorem x_gok3 : x_gok 3 := ⟨rfl, by decide +kernel, ⟨by decide +kernel, by decide +kernel, by decide +kernel⟩, fun h => absurd h (by decide), fun _ => by decide +kernel, by decide, fun h => absurd h (by decide), fun _ => rfl, fun h => absurd h (by decide), fun h => absurd h (by decide)⟩
theorem x_gok4 : x_gok 4 := ⟨rfl, by decide +kernel, ⟨by decide +kernel, by decide +kernel, by decide +kernel⟩, fun h => absurd h (by decide), fun _ => by decide +kernel, by decide, fun _ => rfl, fun h => absurd h (by decide), fun h => absurd h (by decide), fun h => absurd h (by decide)⟩
theorem x_gok5 : x_gok 5 := ⟨rfl, by decide +kernel, ⟨by decide +kernel, by decide +kernel, by decide +kernel⟩, fun h => absurd h (by decide), fun _ => by decide +kernel, by decide, fun _ => rfl, fun h => absurd h (by decide), fun h => absurd h (by decide), fun h => absurd h (by decide)⟩
theorem x_gok6 : x_gok 6 := ⟨rfl, by decide +kernel, ⟨by decide +kernel, by decide +kernel, by decide +kernel⟩, fun _ => ⟨rfl, rfl⟩, fun h => absurd h (by decide), by decide, fun _ => rfl, fun h => absurd h (by decide), fun h => absurd h (by decide), fun h => absurd h (by decide)⟩
theorem x_gok7 : x_gok 7 := ⟨rfl, by decide +kernel, ⟨by decide +kernel, by decide +kernel, by decide +kernel⟩, fun h => absurd h (by decide), fun _ => by decide +kernel, by decide, fun h => absurd h (by decide), fun _ => rfl, fun h => absurd h (by decide), fun h => absurd h (by decide)⟩
theorem x_gok8 : x_gok 8 := ⟨rfl, by decide +kernel, ⟨by decide +kernel, by decide +kernel, by decide +kernel⟩, fun h => absurd h (by decide), fun _ => by decide +kernel, by decide, fun h => absurd h (by decide), fun h => absurd h (by decide), fun h => absurd h (by decide), fun _ => ⟨_, rfl⟩⟩
theorem x_gok9 : x_gok 9 := ⟨rfl, by decide +kernel, ⟨by decide +kernel, by decide +kernel, by decide +kernel⟩, fun h => absurd h (by decide), fun _ => by decide +kernel, by decide, fun _ => rfl, fun h => absurd h (by decide), fun h => absurd h (by decide), fun h => absurd h (by decide)⟩
theorem x_gok10 : x_gok 10 := ⟨rfl, by decide +kernel, ⟨by decide +kernel, by decide +kernel, by decide +kernel⟩, fun _ => ⟨rfl, rfl⟩, fun h => absurd h (by decide), by decide, fun _ => rfl, fun h => absurd h (by decide), fun h => absurd h (by decide), fun h => absurd h (by decide)⟩
theorem x_gok11 : x_gok 11 := ⟨rfl, by decide +kernel, ⟨by decide +kernel, by decide +kernel, by decide +kernel⟩, fun h => absurd h (by decide), fun _ => by decide +kernel, by decide, fun h => absurd h (by decide), fun h => absurd h (by decide), fun _ => rfl, fun h => absurd h (by decide)⟩
theorem x_gok12 : x_gok 12 := ⟨rfl, by decide +kernel, ⟨by decide +kernel, by decide +kernel, by decide +kernel⟩, fun h => absurd h (by decide), fun _ => by decide +kernel, by decide, fun h => absurd h (by decide), fun _ => rfl, fun h => absurd h (by decide), fun h => absurd h (by decide)⟩
theorem x_gok13 : x_gok 13 := ⟨rfl, by decide +kernel, ⟨by decide +kernel, by decide +kernel, by decide +kernel⟩, fun h => absurd h (by decide), fun _ => by decide +kernel, by decide, fun h => absurd h (by decide), fun h => absurd h (by decide), fun _ => rfl, fun h => absurd h (by decide)⟩
theorem x_gok14 : x_gok 14 := ⟨rfl, by decide +kernel, ⟨by decide +kernel, by decide +kernel, by decide +kernel⟩, fun h => absurd h (by decide), fun _ => by decide +kernel, by decide, fun _ => rfl, fun h => absurd h (by decide), fun h => absurd h (by decide), fun h => absurd h (by decide)⟩
theorem x_gok15 : x_gok 15 := ⟨rfl, by decide +kernel, ⟨by decide +kernel, by decide +kernel, by decide +kernel⟩, fun h => absurd h (by decide), fun _ => by decide +kernel, by decide, fun _ => rfl, fun h => absurd h (by decide), fun h => absurd h (by decide), fun h => absurd h (by decide)⟩
theorem x_gok16 : x_gok 16 := ⟨rfl, by decide +kernel, ⟨by decide +kernel, by decide +kernel, by decide +kernel⟩, fun h => absurd h (by decide), fun _ => by decide +kernel, by decide, fun h => absurd h (by decide), fun h => absurd h (by decide), fun _ => rfl, fun h => absurd h (by decide)⟩
theorem x_gok17 : x_gok 17 := ⟨rfl, by decide +kernel, ⟨by decide +kernel, by decide +kernel, by decide +kernel⟩, fun _ => ⟨rfl, rfl⟩, fun h => absurd h (by decide), by decide, fun _ => rfl, fun h => absurd h (by decide), fun h => absurd h (by decide), fun h => absurd h (by decide)⟩
theorem x_gok18 : x_gok 18 := ⟨rfl, by decide +kernel, ⟨by decide +kernel, by decide +kernel, by decide +kernel⟩, fun _ => ⟨rfl, rfl⟩, fun h => absurd h (by decide), by decide, fun _ => rfl, fun h => absurd h (by decide), fun h => absurd h (by decide), fun h => absurd h (by decide)⟩
theorem x_gok19 : x_gok 19 := ⟨rfl, by decide +kernel, ⟨by decide +kernel, by decide +kernel, by decide +kernel⟩, fun h => absurd h (by decide), fun _ => by decide +kernel, by decide, fun h => absurd h (by decide), fun _ => rfl, fun h => absurd h (by decide), fun h => absurd h (by decide)⟩
theorem x_gok20 : x_gok 20 := ⟨rfl, by decide +kernel, ⟨by decide +kernel, by decide +kernel, by decide +kernel⟩, fun h => absurd h (by decide), fun _ => by decide +kernel, by decide, fun h => absurd h (by decide), fun _ => rfl, fun h => absurd h (by decide), fun h => absurd h (by decide)⟩
theorem x_gok21 : x_gok 21 := ⟨rfl, by decide +kernel, ⟨by decide +kernel, by decide +kernel, by decide +kernel⟩, fun _ => ⟨rfl, rfl⟩, fun h => absurd h (by decide), by decide, fun _ => rfl, fun h => absurd h (by decide), fun h => absurd h (by decide), fun h => absurd h (by decide)⟩
theorem x_gok22 : x_gok 22 := ⟨rfl, by decide +kernel, ⟨by decide +kernel, by decide +kernel, by decide +kernel⟩, fun h => absurd h (by decide), fun _ => by decide +kernel, by decide, fun h => absurd h (by decide), fun h => absurd h (by decide), fun _ => rfl, fun h => absurd h (by decide)⟩
theorem x_gok23 : x_gok 23 := ⟨rfl, by decide +kernel, ⟨by decide +kernel, by decide +kernel, by decide +kernel⟩, fun h => absurd h (by decide), fun _ => by decide +kernel, by decide, fun h => absurd h (by decide), fun _ => rfl, fun h => absurd h (by decide), fun h => absurd h (by decide)⟩
theorem x_gok24 : x_gok 24 := ⟨rfl, by decide +kernel, ⟨by decide +kernel, by decide +kernel, by decide +kernel⟩, fun h => absurd h (by decide), fun _ => by decide +kernel, by decide, fun h => absurd h (by decide), fun h => absurd h (by decide), fun h => absurd h (by decide), fun _ => ⟨_, rfl⟩⟩
theorem x_gok25 : x_gok 25 := ⟨rfl, by decide +kernel, ⟨by decide +kernel, by decide +kernel, by decide +kernel⟩, fun h => absurd h (by decide), fun _ => by decide +kernel, by decide, fun h => absurd h (by decide), fun h => absurd h (by decide), fun h => absurd h (by decide), fun _ => ⟨_, rfl⟩⟩
theorem x_gok26 : x_gok 26 := ⟨rfl, by decide +kernel, ⟨by decide +kernel, by decide +kernel, by decide +kernel⟩, fun _ => ⟨rfl, rfl⟩, fun h => absurd h (by decide), by decide, fun _ => rfl, fun h => absurd h (by decide), fun h => absurd h (by decide), fun h => absurd h (by decide)⟩
theorem x_gok27 : x_gok 27 := ⟨rfl, by decide +kernel, ⟨by decide +kernel, by decide +kernel, by decide +kernel⟩, fun h => absurd h (by decide), fun _ => by decide +kernel, by decide, fun h => absurd h (by decide), fun _ => rfl, fun h => absurd h (by decide), fun h => absurd h (by decide)⟩
theorem x_gok28 : x_gok 28 := ⟨rfl, by decide +kernel, ⟨by decide +kernel, by decide +kernel, by decide +kernel⟩, fun h => absurd h (by decide), fun _ => by decide +kernel, by decide, fun h => absurd h (by decide), fun h => absurd h (by decide), fun _ => rfl, fun h => absurd h (by decide)⟩
theorem x_gok29 : x_gok 29 := ⟨rfl, by decide +kernel, ⟨by decide +kernel, by decide +kernel, by decide +kernel⟩, fun h => absurd h (by decide), fun _ => by decide +kernel, by decide, fun h => absurd h (by decide), fun _ => rfl, fun h => absurd h (by decide), fun h => absurd h (by decide)⟩
theorem x_gok30 : x_gok 30 := ⟨rfl, by decide +kernel, ⟨by decide +kernel, by decide +kernel, by decide +kernel⟩, fun h => absurd h (by decide), fun _ => by decide +kernel, by decide, fun h => absurd h (by decide), fun h => absurd h (by decide), fun _ => rfl, fun h => absurd h (by decide)⟩
theorem x_gok31 : x_gok 31 := ⟨rfl, by decide +kernel, ⟨by decide +kernel, by decide +kernel, by decide +kernel⟩, fun h => absurd h (by decide), fun _ => by decide +kernel, by decide, fun h => absurd h (by decide), fun h => absurd h (by decide), fun _ => rfl, fun h => absurd h (by decide)⟩
theorem x_gok32 : x_gok 32 := ⟨rfl, by decide +kernel, ⟨by decide +kernel, by decide +kernel, by decide +kernel⟩, fun h => absurd h (by decide), fun _ => by decide +kernel, by decide, fun _ => rfl, fun h => absurd h (by decide), fun h => absurd h (by decide), fun h => absurd h (by decide)⟩
theorem x_gok33 : x_gok 33 := ⟨rfl, by decide +kernel, ⟨by decide +kernel, by decide +kernel, by decide +kernel⟩, fun h => absurd h (by decide), fun _ => by decide +kernel, by decide, fun h => absurd h (by decide), fun _ => rfl, fun h => absurd h (by decide), fun h => absurd h (by decide)⟩
theorem x_gok34 : x_gok 34 := ⟨rfl, by decide +kernel, ⟨by decide +kernel, by decide +kernel, by decide +kernel⟩, fun h => absurd h (by decide), fun _ => by decide +kernel, by decide, fun _ => rfl, fun h => absurd h (by decide), fun h => absurd h (by decide), fun h => absurd h (by decide)⟩
theorem x_gok35 : x_gok 35 := ⟨rfl, by decide +kernel, ⟨by decide +kernel, by decide +kernel, by decide +kernel⟩, fun h => absurd h (by decide), fun _ => by decide +kernel, by decide, fun _ => rfl, fun h => absurd h (by decide), fun h => absurd h (by decide), fun h => absurd h (by decide)⟩
theorem x_gok36 : x_gok 36 := ⟨rfl, by decide +kernel, ⟨by decide +kernel, by decide +kernel, by decide +kernel⟩, fun h => absurd h (by decide), fun _ => by decide +kernel, by decide, fun _ => rfl, fun h => absurd h (by decide), fun h => absurd h (by decide), fun h => absurd h (by decide)⟩
theorem x_gok37 : x_gok 37 := ⟨rfl, by decide +kernel, ⟨by decide +kernel, by decide +kernel, by decide +kernel⟩, fun h => absurd h (by decide), fun _ => by decide +kernel, by decide, fun h => absurd h (by decide), fun _ => rfl, fun h => absurd h (by decide), fun h => absurd h (by decide)⟩
theorem x_gok38 : x_gok 38 := ⟨rfl, by decide +kernel, ⟨by decide +kernel, by decide +kernel, by decide +kernel⟩, fun h => absurd h (by decide), fun _ => by decide +kernel, by decide, fun _ => rfl, fun h => absurd h (by decide), fun h => absurd h (by decide), fun h => absurd h (by decide)⟩
theorem x_gok39 : x_gok 39 := ⟨rfl, by decide +kernel, ⟨by decide +kernel, by decide +kernel, by decide +kernel⟩, fun h => absurd h (by decide), fun _ => by decide +kernel, by decide, fun _ => rfl, fun h => absurd h (by decide), fun h => absurd h (by decide), fun h => absurd h (by decide)⟩
theorem x_gok40 : x_gok 40 := ⟨rfl, by decide +kernel, ⟨by decide +kernel, by decide +kernel, by decide +kernel⟩, fun h => absurd h (by decide), fun _ => by decide +kernel, by decide, fun _ => rfl, fun h => absurd h (by decide), fun h => absurd h (by decide), fun h => absurd h (by decide)⟩
theorem x_gok41 : x_gok 41 := ⟨rfl, by decide +kernel, ⟨by decide +kernel, by decide +kernel, by decide +kernel⟩, fun h => absurd h (by decide), fun _ => by decide +kernel, by decide, fun h => absurd h (by decide), fun h => absurd h (by decide), fun _ => rfl, fun h => absurd h (by decide)⟩
theorem x_gok42 : x_gok 42 := ⟨rfl, by decide +kernel, ⟨by decide +kernel, by decide +kernel, by decide +kernel⟩, fun h => absurd h (by decide), fun _ => by decide +kernel, by decide, fun _ => rfl, fun h => absurd h (by decide), fun h => absurd h (by decide), fun h => absurd h (by decide)⟩
theorem x_gok43 : x_gok 43 := ⟨rfl, by decide +kernel, ⟨by decide +kernel, by decide +kernel, by decide +kernel⟩, fun h => absurd h (by decide), fun _ => by decide +kernel, by decide, fun h => absurd h (by decide), fun _ => rfl, fun h => absurd h (by decide), fun h => absurd h (by decide)⟩
theorem x_gok44 : x_gok 44 := ⟨rfl, by decide +kernel, ⟨by decide +kernel, by decide +kernel, by decide +kernel⟩, fun h => absurd h (by decide), fun _ => by decide +kernel, by decide, fun _ => rfl, fun h => absurd h (by decide), fun h => absurd h (by decide), fun h => absurd h (by decide)⟩
theorem x_gok45 : x_gok 45 := ⟨rfl, by decide +kernel, ⟨by decide +kernel, by decide +kernel, by decide +kernel⟩, fun h => absurd h (by decide), fun _ => by decide +kernel, by decide, fun h => absurd h (by decide), fun h => absurd h (by decide), fun _ => rfl, fun h => absurd h (by decide)⟩
theorem x_gok46 : x_gok 46 := ⟨rfl, by decide +kernel, ⟨by decide +kernel, by decide +kernel, by decide +kernel⟩, fun h => absurd h (by decide), fun _ => by decide +kernel, by decide, fun h => absurd h (by decide), fun h => absurd h (by decide), fun _ => rfl, fun h => absurd h (by decide)⟩
theorem x_gok47 : x_gok 47 := ⟨rfl, by decide +kernel, ⟨by decide +kernel, by decide +kernel, by decide +kernel⟩, fun h => absurd h (by decide), fun _ => by decide +kernel, by decide, fun _ => rfl, fun h => absurd h (by decide), fun h => absurd h (by decide), fun h => absurd h (by decide)⟩
theorem x_gok48 : x_gok 48 := ⟨rfl, by decide +kernel, ⟨by decide +kernel, by decide +kernel, by decide +kernel⟩, fun h => absurd h (by decide), fun _ => by decide +kernel, by decide, fun _ => rfl, fun h => absurd h (by decide), fun h => absurd h (by decide), fun h => absurd h (by decide)⟩
theorem x_gok49 : x_gok 49 := ⟨rfl, by decide +kernel, ⟨by decide +kernel, by decide +kernel, by decide +kernel⟩, fun h => absurd h (by decide), fun _ => by decide +kernel, by decide, fun _ => rfl, fun h => absurd h (by decide), fun h => absurd h (by decide), fun h => absurd h (by decide)⟩
theorem x_gok50 : x_gok 50 := ⟨rfl, by decide +kernel, ⟨by decide +kernel, by decide +kernel, by decide +kernel⟩, fun h => absurd h (by decide), fun _ => by decide +kernel, by decide, fun h => absurd h (by decide), fun _ => rfl, fun h => absurd h (by decide), fun h => absurd h (by decide)⟩
theorem x_gok51 : x_gok 51 := ⟨rfl, by decide +kernel, ⟨by decide +kernel, by decide +kernel, by decide +kernel⟩, fun h => absurd h (by decide), fun _ => by decide +kernel, by decide, fun _ => rfl, fun h => absurd h (by decide), fun h => absurd h (by decide), fun h => absurd h (by decide)⟩
theorem x_gok52 : x_gok 52 := ⟨rfl, by decide +kernel, ⟨by decide +kernel, by decide +kernel, by decide +kernel⟩, fun h => absurd h (by decide), fun _ => by decide +kernel, by decide, fun h => absurd h (by decide), fun h => absurd h (by decide), fun _ => rfl, fun h => absurd h (by decide)⟩
theorem x_gok53 : x_gok 53 := ⟨rfl, by decide +kernel, ⟨by decide +kernel, by decide +kernel, by decide +kernel⟩, fun _ => ⟨rfl, rfl⟩, fun h => absurd h (by decide), by decide, fun _ => rfl, fun h => absurd h (by decide), fun h => absurd h (by decide), fun h => absurd h (by decide)⟩
theorem x_gok54 : x_gok 54 := ⟨rfl, by decide +kernel, ⟨by decide +kernel, by decide +kernel, by decide +kernel⟩, fun _ => ⟨rfl, rfl⟩, fun h => absurd h (by decide), by decide, fun _ => rfl, fun h => absurd h (by decide), fun h => absurd h (by decide), fun h => absurd h (by decide)⟩
theorem x_gok55 : x_gok 55 := ⟨rfl, by decide +kernel, ⟨by decide +kernel, by decide +kernel, by decide +kernel⟩, fun h => absurd h (by decide), fun _ => by decide +kernel, by decide, fun h => absurd h (by decide), fun h => absurd h (by decide), fun _ => rfl, fun h => absurd h (by decide)⟩
theorem x_gok56 : x_gok 56 := ⟨rfl, by decide +kernel, ⟨by decide +kernel, by decide +kernel, by decide +kernel⟩, fun h => absurd h (by decide), fun _ => by decide +kernel, by decide, fun h => absurd h (by decide), fun _ => rfl, fun h => absurd h (by decide), fun h => absurd h (by decide)⟩
theorem x_gok57 : x_gok 57 := ⟨rfl, by decide +kernel, ⟨by decide +kernel, by decide +kernel, by decide +kernel⟩, fun h => absurd h (by decide), fun _ => by decide +kernel, by decide, fun h => absurd h (by decide), fun _ => rfl, fun h => absurd h (by decide), fun h => absurd h (by decide)⟩
theorem x_gok58 : x_gok 58 := ⟨rfl, by decide +kernel, ⟨by decide +kernel, by decide +kernel, by decide +kernel⟩, fun h => absurd h (by decide), fun _ => by decide +kernel, by decide, fun h => absurd h (by decide), fun _ => rfl, fun h => absurd h (by decide), fun h => absurd h (by decide)⟩
theorem x_gok59 : x_gok 59 := ⟨rfl, by decide +kernel, ⟨by decide +kernel, by decide +kernel, by decide +kernel⟩, fun h => absurd h (by decide), fun _ => by decide +kernel, by decide, fun h => absurd h (by decide), fun h => absurd h (by decide), fun h => absurd h (by decide), fun _ => ⟨_, rfl⟩⟩
theorem x_gok60 : x_gok 60 := ⟨rfl, by decide +kernel, ⟨by decide +kernel, by decide +kernel, by decide +kernel⟩, fun _ => ⟨rfl, rfl⟩, fun h => absurd h (by decide), by decide, fun _ => rfl, fun h => absurd h (by decide), fun h => absurd h (by decide), fun h => absurd h (by decide)⟩
theorem x_gok61 : x_gok 61 := ⟨rfl, by decide +kernel, ⟨by decide +kernel, by decide +kernel, by decide +kernel⟩, fun h => absurd h (by decide), fun _ => by decide +kernel, by decide, fun _ => rfl, fun h => absurd h (by decide), fun h => absurd h (by decide), fun h => absurd h (by decide)⟩
theorem x_gok62 : x_gok 62 := ⟨rfl, by decide +kernel, ⟨by decide +kernel, by decide +kernel, by decide +kernel⟩, fun h => absurd h (by decide), fun _ => by decide +kernel, by decide, fun h => absurd h (by decide), fun _ => rfl, fun h => absurd h (by decide), fun h => absurd h (by decide)⟩
theorem x_gok63 : x_gok 63 := ⟨rfl, by decide +kernel, ⟨by decide +kernel, by decide +kernel, by decide +kernel⟩, fun _ => ⟨rfl, rfl⟩, fun h => absurd h (by decide), by decide, fun _ => rfl, fun h => absurd h (by decide), fun h => absurd h (by decide), fun h => absurd h (by decide)⟩
theorem x_gok64 : x_gok 64 := ⟨rfl, by decide +kernel, ⟨by decide +kernel, by decide +kernel, by decide +kernel⟩, fun h => absurd h (by decide), fun _ => by decide +kernel, by decide, fun _ => rfl, fun h => absurd h (by decide), fun h => absurd h (by decide), fun h => absurd h (by decide)⟩
theorem x_gok65 : x_gok 65 := ⟨rfl, by decide +kernel, ⟨by decide +kernel, by decide +kernel, by decide +kernel⟩, fun h => absurd h (by decide), fun _ => by decide +kernel, by decide, fun _ => rfl, fun h => absurd h (by decide), fun h => absurd h (by decide), fun h => absurd h (by decide)⟩
theorem x_gok66 : x_gok 66 := ⟨rfl, by decide +kernel, ⟨by decide +kernel, by decide +kernel, by decide +kernel⟩, fun h => absurd h (by decide), fun _ => by decide +kernel, by decide, fun _ => rfl, fun h => absurd h (by decide), fun h => absurd h (by decide), fun h => absurd h (by decide)⟩
theorem x_gok67 : x_gok 67 := ⟨rfl, by decide +kernel, ⟨by decide +kernel, by decide +kernel, by decide +kernel⟩, fun h => absurd h (by decide), fun _ => by decide +kernel, by decide, fun h => absurd h (by decide), fun _ => rfl, fun h => absurd h (by decide), fun h => absurd h (by decide)⟩
theorem x_gok68 : x_gok 68 := ⟨rfl, by decide +kernel, ⟨by decide +kernel, by decide +kernel, by decide +kernel⟩, fun h => absurd h (by decide), fun _ => by decide +kernel, by decide, fun h => absurd h (by decide), fun h => absurd h (by decide), fun _ => rfl, fun h => absurd h (by decide)⟩
theorem x_gok69 : x_gok 69 := ⟨rfl, by decide +kernel, ⟨by decide +kernel, by decide +kernel, by decide +kernel⟩, fun h => absurd h (by decide), fun _ => by decide +kernel, by decide, fun h => absurd h (by decide), fun _ => rfl, fun h => absurd h (by decide), fun h => absurd h (by decide)⟩
theorem x_gok70 : x_gok 70 := ⟨rfl, by decide +kernel, ⟨by decide +kernel, by decide +kernel, by decide +kernel⟩, fun h => absurd h (by decide), fun _ => by decide +kernel, by decide, fun h => absurd h (by decide), fun h => absurd h (by decide), fun h => absurd h (by decide), fun _ => ⟨_, rfl⟩⟩
theorem x_gok71 : x_gok 71 := ⟨rfl, by decide +kernel, ⟨by decide +kernel, by decide +kernel, by decide +kernel⟩, fun h => absurd h (by decide), fun _ => by decide +kernel, by decide, fun h => absurd h (by decide), fun _ => rfl, fun h => absurd h (by decide), fun h => absurd h (by decide)⟩
theorem x_gok72 : x_gok 72 := ⟨rfl, by decide +kernel, ⟨by decide +kernel, by decide +kernel, by decide +kernel⟩, fun h => absurd h (by decide), fun _ => by decide +kernel, by decide, fun h => absurd h (by decide), fun h => absurd h (by decide), fun _ => rfl, fun h => absurd h (by decide)⟩
theorem x_gok73 : x_gok 73 := ⟨rfl, by decide +kernel, ⟨by decide +kernel, by decide +kernel, by decide +kernel⟩, fun _ => ⟨rfl, rfl⟩, fun h => absurd h (by decide), by decide, fun _ => rfl, fun h => absurd h (by decide), fun h => absurd h (by decide), fun h => absurd h (by decide)⟩
theorem x_gok74 : x_gok 74 := ⟨rfl, by decide +kernel, ⟨by decide +kernel, by decide +kernel, by decide +kernel⟩, fun h => absurd h (by decide), fun _ => by decide +kernel, by decide, fun h => absurd h (by decide), fun _ => rfl, fun h => absurd h (by decide), fun h => absurd h (by decide)⟩
theorem x_gok75 : x_gok 75 := ⟨rfl, by decide +kernel, ⟨by decide +kernel, by decide +kernel, by decide +kernel⟩, fun h => absurd h (by decide), fun _ => by decide +kernel, by decide, fun h => absurd h (by decide), fun h => absurd h (by decide), fun _ => rfl, fun h => absurd h (by decide)⟩
theorem x_gok76 : x_gok 76 := ⟨rfl, by decide +kernel, ⟨by decide +kernel, by decide +kernel, by decide +kernel⟩, fun h => absurd h (by decide), fun _ => by decide +kernel, by decide, fun h => absurd h (by decide), fun _ => rfl, fun h => absurd h (by decide), fun h => absurd h (by decide)⟩
theorem x_gok77 : x_gok 77 := ⟨rfl, by decide +kernel, ⟨by decide +kernel, by decide +kernel, by decide +kernel⟩, fun h => absurd h (by decide), fun _ => by decide +kernel, by decide, fun h => absurd h (by decide), fun h => absurd h (by decide), fun _ => rfl, fun h => absurd h (by decide)⟩
theorem x_gok78 : x_gok 78 := ⟨rfl, by decide +kernel, ⟨by decide +kernel, by decide +kernel, by decide +kernel⟩, fun h => absurd h (by decide), fun _ => by decide +kernel, by decide, fun h => absurd h (by decide), fun h => absurd h (by decide), fun _ => rfl, fun h => absurd h (by decide)⟩
theorem x_gok79 : x_gok 79 := ⟨rfl, by decide +kernel, ⟨by decide +kernel, by decide +kernel, by decide +kernel⟩, fun h => absurd h (by decide), fun _ => by decide +kernel, by decide, fun h => absurd h (by decide), fun h => absurd h (by decide), fun _ => rfl, fun h => absurd h (by decide)⟩
theorem x_gok80 : x_gok 80 := ⟨rfl, by decide +kernel, ⟨by decide +kernel, by decide +kernel, by decide +kernel⟩, fun h => absurd h (by decide), fun _ => by decide +kernel, by decide, fun h => absurd h (by decide), fun _ => rfl, fun h => absurd h (by decide), fun h => absurd h (by decide)⟩
theorem x_gok81 : x_gok 81 := ⟨rfl, by decide +kernel, ⟨by decide +kernel, by decide +kernel, by decide +kernel⟩, fun h => absurd h (by decide), fun _ => by decide +kernel, by decide, fun h => absurd h (by decide), fun _ => rfl, fun h => absurd h (by decide), fun h => absurd h (by decide)⟩
theorem x_gok82 : x_gok 82 := ⟨rfl, by decide +kernel, ⟨by decide +kernel, by decide +kernel, by decide +kernel⟩, fun h => absurd h (by decide), fun _ => by decide +kernel, by decide, fun h => absurd h (by decide), fun h => absurd h (by decide), fun _ => rfl, fun h => absurd h (by decide)⟩
theorem x_gok83 : x_gok 83 := ⟨rfl, by decide +kernel, ⟨by decide +kernel, by decide +kernel, by decide +kernel⟩, fun h => absurd h (by decide), fun _ => by decide +kernel, by decide, fun h => absurd h (by decide), fun h => absurd h (by decide), fun _ => rfl, fun h => absurd h (by decide)⟩
theorem x_gok84 : x_gok 84 := ⟨rfl, by decide +kernel, ⟨by decide +kernel, by decide +kernel, by decide +kernel⟩, fun h => absurd h (by decide), fun _ => by decide +kernel, by decide, fun h => absurd h (by decide), fun h => absurd h (by decide), fun _ => rfl, fun h => absurd h (by decide)⟩
theorem x_gok85 : x_gok 85 := ⟨rfl, by decide +kernel, ⟨by decide +kernel, by decide +kernel, by decide +kernel⟩, fun h => absurd h (by decide), fun _ => by decide +kernel, by decide, fun h => absurd h (by decide), fun h => absurd h (by decide), fun _ => rfl, fun h => absurd h (by decide)⟩
theorem x_gok86 : x_gok 86 := ⟨rfl, by decide +kernel, ⟨by decide +kernel, by decide +kernel, by decide +kernel⟩, fun h => absurd h (by decide), fun _ => by decide +kernel, by decide, fun h => absurd h (by decide), fun _ => rfl, fun h => absurd h (by decide), fun h => absurd h (by decide)⟩
theorem x_gok87 : x_gok 87 := ⟨rfl, by decide +kernel, ⟨by decide +kernel, by decide +kernel, by decide +kernel⟩, fun h => absurd h (by decide), fun _ => by decide +kernel, by decide, fun h => absurd h (by decide), fun h => absurd h (by decide), fun _ => rfl, fun h => absurd h (by decide)⟩
theorem x_gok88 : x_gok 88 := ⟨rfl, by decide +kernel, ⟨by decide +kernel, by decide +kernel, by decide +kernel⟩, fun h => absurd h (by decide), fun _ => by decide +kernel, by decide, fun h => absurd h (by decide), fun _ => rfl, fun h => absurd h (by decide), fun h => absurd h (by decide)⟩
theorem x_gok89 : x_gok 89 := ⟨rfl, by decide +kernel, ⟨by decide +kernel, by decide +kernel, by decide +kernel⟩, fun h => absurd h (by decide), fun _ => by decide +kernel, by decide, fun h => absurd h (by decide), fun _ => rfl, fun h => absurd h (by decide), fun h => absurd h (by decide)⟩
theorem x_gok90 : x_gok 90 := ⟨rfl, by decide +kernel, ⟨by decide +kernel, by decide +kernel, by decide +kernel⟩, fun h => absurd h (by decide), fun _ => by decide +kernel, by decide, fun h => absurd h (by decide), fun _ => rfl, fun h => absurd h (by decide), fun h => absurd h (by decide)⟩
theorem x_gok91 : x_gok 91 := ⟨rfl, by decide +kernel, ⟨by decide +kernel, by decide +kernel, by decide +kernel⟩, fun h => absurd h (by decide), fun _ => by decide +kernel, by decide, fun h => absurd h (by decide), fun _ => rfl, fun h => absurd h (by decide), fun h => absurd h (by decide)⟩
theorem x_gok92 : x_gok 92 := ⟨rfl, by decide +kernel, ⟨by decide +kernel, by decide +kernel, by decide +kernel⟩, fun h => absurd h (by decide), fun _ => by decide +kernel, by decide, fun h => absurd h (by decide), fun _ => rfl, fun h => absurd h (by decide), fun h => absurd h (by decide)⟩
theorem x_gok93 : x_gok 93 := ⟨rfl, by decide +kernel, ⟨by decide +kernel, by decide +kernel, by decide +kernel⟩, fun h => absurd h (by decide), fun _ => by decide +kernel, by decide, fun h => absurd h (by decide), fun _ => rfl, fun h => absurd h (by decide), fun h => absurd h (by decide)⟩
theorem x_gok94 : x_gok 94 := ⟨rfl, by decide +kernel, ⟨by decide +kernel, by decide +kernel, by decide +kernel⟩, fun h => absurd h (by decide), fun _ => by decide +kernel, by decide, fun h => absurd h (by decide), fun _ => rfl, fun h => absurd h (by decide), fun h => absurd h (by decide)⟩
theorem x_gok95 : x_gok 95 := ⟨rfl, by decide +kernel, ⟨by decide +kernel, by decide +kernel, by decide +kernel⟩, fun _ => ⟨rfl, rfl⟩, fun h => absurd h (by decide), by decide, fun _ => rfl, fun h => absurd h (by decide), fun h => absurd h (by decide), fun h => absurd h (by decide)⟩
theorem x_gok96 : x_gok 96 := ⟨rfl, by decide +kernel, ⟨by decide +kernel, by decide +kernel, by decide +kernel⟩, fun h => absurd h (by decide), fun _ => by decide +kernel, by decide, fun h => absurd h (by decide), fun _ => rfl, fun h => absurd h (by decide), fun h => absurd h (by decide)⟩
theorem x_gok97 : x_gok 97 := ⟨rfl, by decide +kernel, ⟨by decide +kernel, by decide +kernel, by decide +kernel⟩, fun h => absurd h (by decide), fun _ => by decide +kernel, by decide, fun h => absurd h (by decide), fun _ => rfl, fun h => absurd h (by decide), fun h => absurd h (by decide)⟩
theorem x_gok98 : x_gok 98 := ⟨rfl, by decide +kernel, ⟨by decide +kernel, by decide +kernel, by decide +kernel⟩, fun h => absurd h (by decide), fun _ => by decide +kernel, by decide, fun h => absurd h (by decide), fun _ => rfl, fun h => absurd h (by decide), fun h => absurd h (by decide)⟩
theorem x_gok99 : x_gok 99 := ⟨rfl, by decide +kernel, ⟨by decide +kernel, by decide +kernel, by decide +kernel⟩, fun h => absurd h (by decide), fun _ => by decide +kernel, by decide, fun h => absurd h (by decide), fun h => absurd h (by decide), fun _ => rfl, fun h => absurd h (by decide)⟩
theorem x_gok100 : x_gok 100 := ⟨rfl, by decide +kernel, ⟨by decide +kernel, by decide +kernel, by decide +kernel⟩, fun h => absurd h (by decide), fun _ => by decide +kernel, by decide, fun h => absurd h (by decide), fun h => absurd h (by decide), fun _ => rfl, fun h => absurd h (by decide)⟩
theorem x_gok101 : x_gok 101 := ⟨rfl, by decide +kernel, ⟨by decide +kernel, by decide +kernel, by decide +kernel⟩, fun h => absurd h (by decide), fun _ => by decide +kernel, by decide, fun _ => rfl, fun h => absurd h (by decide), fun h => absurd h (by decide), fun h => absurd h (by decide)⟩
theorem x_gok102 : x_gok 102 := ⟨rfl, by decide +kernel, ⟨by decide +kernel, by decide +kernel, by decide +kernel⟩, fun h => absurd h (by decide), fun _ => by decide +kernel, by decide, fun h => absurd h (by decide), fun _ => rfl, fun h => absurd h (by decide), fun h => absurd h (by decide)⟩
theorem x_gok103 : x_gok 103 := ⟨rfl, by decide +kernel, ⟨by decide +kernel, by decide +kernel, by decide +kernel⟩, fun h => absurd h (by decide), fun _ => by decide +kernel, by decide, fun _ => rfl, fun h => absurd h (by decide), fun h => absurd h (by decide), fun h => absurd h (by decide)⟩
theorem x_gok104 : x_gok 104 := ⟨rfl, by decide +kernel, ⟨by decide +kernel, by decide +kernel, by decide +kernel⟩, fun h => absurd h (by decide), fun _ => by decide +kernel, by decide, fun h => absurd h (by decide), fun h => absurd h (by decide), fun _ => rfl, fun h => absurd h (by decide)⟩
theorem x_gok105 : x_gok 105 := ⟨rfl, by decide +kernel, ⟨by decide +kernel, by decide +kernel, by decide +kernel⟩, fun h => absurd h (by decide), fun _ => by decide +kernel, by decide, fun h => absurd h (by decide), fun h => absurd h (by decide), fun _ => rfl, fun h => absurd h (by decide)⟩
theorem x_gok106 : x_gok 106 := ⟨rfl, by decide +kernel, ⟨by decide +kernel, by decide +kernel, by decide +kernel⟩, fun h => absurd h (by decide), fun _ => by decide +kernel, by decide, fun h => absurd h (by decide), fun _ => rfl, fun h => absurd h (by decide), fun h => absurd h (by decide)⟩
theorem x_gok107 : x_gok 107 := ⟨rfl, by decide +kernel, ⟨by decide +kernel, by decide +kernel, by decide +kernel⟩, fun h => absurd h (by decide), fun _ => by decide +kernel, by decide, fun h => absurd h (by decide), fun h => absurd h (by decide), fun _ => rfl, fun h => absurd h (by decide)⟩
theorem x_gok108 : x_gok 108 := ⟨rfl, by decide +kernel, ⟨by decide +kernel, by decide +kernel, by decide +kernel⟩, fun h => absurd h (by decide), fun _ => by decide +kernel, by decide, fun _ => rfl, fun h => absurd h (by decide), fun h => absurd h (by decide), fun h => absurd h (by decide)⟩
theorem x_gok109 : x_gok 109 := ⟨rfl, by decide +kernel, ⟨by decide +kernel, by decide +kernel, by decide +kernel⟩, fun h => absurd h (by decide), fun _ => by decide +kernel, by decide, fun _ => rfl, fun h => absurd h (by decide), fun h => absurd h (by decide), fun h => absurd h (by decide)⟩
theorem x_gok110 : x_gok 110 := ⟨rfl, by decide +kernel, ⟨by decide +kernel, by decide +kernel, by decide +kernel⟩, fun h => absurd h (by decide), fun _ => by decide +kernel, by decide, fun _ => rfl, fun h => absurd h (by decide), fun h => absurd h (by decide), fun h => absurd h (by decide)⟩
theorem x_gok111 : x_gok 111 := ⟨rfl, by decide +kernel, ⟨by decide +kernel, by decide +kernel, by decide +kernel⟩, fun h => absurd h (by decide), fun _ => by decide +kernel, by decide, fun _ => rfl, fun h => absurd h (by decide), fun h => absurd h (by decide), fun h => absurd h (by decide)⟩
theorem x_gok112 : x_gok 112 := ⟨rfl, by decide +kernel, ⟨by decide +kernel, by decide +kernel, by decide +kernel⟩, fun h => absurd h (by decide), fun _ => by decide +kernel, by decide, fun h => absurd h (by decide), fun _ => rfl, fun h => absurd h (by decide), fun h => absurd h (by decide)⟩
theorem x_gok113 : x_gok 113 := ⟨rfl, by decide +kernel, ⟨by decide +kernel, by decide +kernel, by decide +kernel⟩, fun h => absurd h (by decide), fun _ => by decide +kernel, by decide, fun _ => rfl, fun h => absurd h (by decide), fun h => absurd h (by decide), fun h => absurd h (by decide)⟩
theorem x_gok114 : x_gok 114 := ⟨rfl, by decide +kernel, ⟨by decide +kernel, by decide +kernel, by decide +kernel⟩, fun h => absurd h (by decide), fun _ => by decide +kernel, by decide, fun h => absurd h (by decide), fun _ => rfl, fun h => absurd h (by decide), fun h => absurd h (by decide)⟩
theorem x_gok115 : x_gok 115 := ⟨rfl, by decide +kernel, ⟨by decide +kernel, by decide +kernel, by decide +kernel⟩, fun h => absurd h (by decide), fun _ => by decide +kernel, by decide, fun _ => rfl, fun h => absurd h (by decide), fun h => absurd h (by decide), fun h => absurd h (by decide)⟩
theorem x_gok116 : x_gok 116 := ⟨rfl, by decide +kernel, ⟨by decide +kernel, by decide +kernel, by decide +kernel⟩, fun h => absurd h (by decide), fun _ => by decide +kernel, by decide, fun _ => rfl, fun h => absurd h (by decide), fun h => absurd h (by decide), fun h => absurd h (by decide)⟩
theorem x_gok117 : x_gok 117 := ⟨rfl, by decide +kernel, ⟨by decide +kernel, by decide +kernel, by decide +kernel⟩, fun h => absurd h (by decide), fun _ => by decide +kernel, by decide, fun _ => rfl, fun h => absurd h (by decide), fun h => absurd h (by decide), fun h => absurd h (by decide)⟩
theorem x_gok118 : x_gok 118 := ⟨rfl, by decide +kernel, ⟨by decide +kernel, by decide +kernel, by decide +kernel⟩, fun h => absurd h (by decide), fun _ => by decide +kernel, by decide, fun _ => rfl, fun h => absurd h (by decide), fun h => absurd h (by decide), fun h => absurd h (by decide)⟩
theorem x_gok119 : x_gok 119 := ⟨rfl, by decide +kernel, ⟨by decide +kernel, by decide +kernel, by decide +kernel⟩, fun h => absurd h (by decide), fun _ => by decide +kernel, by decide, fun _ => rfl, fun h => absurd h (by decide), fun h => absurd h (by decide), fun h => absurd h (by decide)⟩
theorem x_gok120 : x_gok 120 := ⟨rfl, by decide +kernel, ⟨by decide +kernel, by decide +kernel, by decide +kernel⟩, fun h => absurd h (by decide), fun _ => by decide +kernel, by decide, fun _ => rfl, fun h => absurd h (by decide), fun h => absurd h (by decide), fun h => absurd h (by decide)⟩
theorem x_gok121 : x_gok 121 := ⟨rfl, by decide +kernel, ⟨by decide +kernel, by decide +kernel, by decide +kernel⟩, fun h => absurd h (by decide), fun _ => by decide +kernel, by decide, fun h => absurd h (by decide), fun _ => rfl, fun h => absurd h (by decide), fun h => absurd h (by decide)⟩
theorem x_gok122 : x_gok 122 := ⟨rfl, by decide +kernel, ⟨by decide +kernel, by decide +kernel, by decide +kernel⟩, fun h => absurd h (by decide), fun _ => by decide +kernel, by decide, fun _ => rfl, fun h => absurd h (by decide), fun h => absurd h (by decide), fun h => absurd h (by decide)⟩
theorem x_gok123 : x_gok 123 := ⟨rfl, by decide +kernel, ⟨by decide +kernel, by decide +kernel, by decide +kernel⟩, fun h => absurd h (by decide), fun _ => by decide +kernel, by decide, fun h => absurd h (by decide), fun h => absurd h (by decide), fun _ => rfl, fun h => absurd h (by decide)⟩
theorem x_gok124 : x_gok 124 := ⟨rfl, by decide +kernel, ⟨by decide +kernel, by decide +kernel, by decide +kernel⟩, fun h => absurd h (by decide), fun _ => by decide +kernel, by decide, fun _ => rfl, fun h => absurd h (by decide), fun h => absurd h (by decide), fun h => absurd h (by decide)⟩
theorem x_gok125 : x_gok 125 := ⟨rfl, by decide +kernel, ⟨by decide +kernel, by decide +kernel, by decide +kernel⟩, fun h => absurd h (by decide), fun _ => by decide +kernel, by decide, fun _ => rfl, fun h => absurd h (by decide), fun h => absurd h (by decide), fun h => absurd h (by decide)⟩
theorem x_gok126 : x_gok 126 := ⟨rfl, by decide +kernel, ⟨by decide +kernel, by decide +kernel, by decide +kernel⟩, fun h => absurd h (by decide), fun _ => by decide +kernel, by decide, fun _ => rfl, fun h => absurd h (by decide), fun h => absurd h (by decide), fun h => absurd h (by decide)⟩
theorem x_gok127 : x_gok 127 := ⟨rfl, by decide +kernel, ⟨by decide +kernel, by decide +kernel, by decide +kernel⟩, fun h => absurd h (by decide), fun _ => by decide +kernel, by decide, fun h => absurd h (by decide), fun h => absurd h (by decide), fun _ => rfl, fun h => absurd h (by decide)⟩
theorem x_gok128 : x_gok 128 := ⟨rfl, by decide +kernel, ⟨by decide +kernel, by decide +kernel, by decide +kernel⟩, fun h => absurd h (by decide), fun _ => by decide +kernel, by decide, fun h => absurd h (by decide), fun h => absurd h (by decide), fun _ => rfl, fun h => absurd h (by decide)⟩
theorem x_gok129 : x_gok 129 := ⟨rfl, by decide +kernel, ⟨by decide +kernel, by decide +kernel, by decide +kernel⟩, fun h => absurd h (by decide), fun _ => by decide +kernel, by decide, fun h => absurd h (by decide), fun h => absurd h (by decide), fun _ => rfl, fun h => absurd h (by decide)⟩
theorem x_gok130 : x_gok 130 := ⟨rfl, by decide +kernel, ⟨by decide +kernel, by decide +kernel, by decide +kernel⟩, fun h => absurd h (by decide), fun _ => by decide +kernel, by decide, fun h => absurd h (by decide), fun h => absurd h (by decide), fun _ => rfl, fun h => absurd h (by decide)⟩
theorem x_gok131 : x_gok 131 := ⟨rfl, by decide +kernel, ⟨by decide +kernel, by decide +kernel, by decide +kernel⟩, fun h => absurd h (by decide), fun _ => by decide +kernel, by decide, fun h => absurd h (by decide), fun _ => rfl, fun h => absurd h (by decide), fun h => absurd h (by decide)⟩
theorem x_gok132 : x_gok 132 := ⟨rfl, by decide +kernel, ⟨by decide +kernel, by decide +kernel, by decide +kernel⟩, fun h => absurd h (by decide), fun _ => by decide +kernel, by decide, fun h => absurd h (by decide), fun h => absurd h (by decide), fun _ => rfl, fun h => absurd h (by decide)⟩
theorem x_gok133 : x_gok 133 := ⟨rfl, by decide +kernel, ⟨by decide +kernel, by decide +kernel, by decide +kernel⟩, fun h => absurd h (by decide), fun _ => by decide +kernel, by decide, fun h => absurd h (by decide), fun _ => rfl, fun h => absurd h (by decide), fun h => absurd h (by decide)⟩
theorem x_gok134 : x_gok 134 := ⟨rfl, by decide +kernel, ⟨by decide +kernel, by decide +kernel, by decide +kernel⟩, fun h => absurd h (by decide), fun _ => by decide +kernel, by decide, fun h => absurd h (by decide), fun _ => rfl, fun h => absurd h (by decide), fun h => absurd h (by decide)⟩
theorem x_gok135 : x_gok 135 := ⟨rfl, by decide +kernel, ⟨by decide +kernel, by decide +kernel, by decide +kernel⟩, fun h => absurd h (by decide), fun _ => by decide +kernel, by decide, fun h => absurd h (by decide), fun _ => rfl, fun h => absurd h (by decide), fun h => absurd h (by decide)⟩
theorem x_gok136 : x_gok 136 := ⟨rfl, by decide +kernel, ⟨by decide +kernel, by decide +kernel, by decide +kernel⟩, fun h => absurd h (by decide), fun _ => by decide +kernel, by decide, fun h => absurd h (by decide), fun _ => rfl, fun h => absurd h (by decide), fun h => absurd h (by decide)⟩
theorem x_gok137 : x_gok 137 := ⟨rfl, by decide +kernel, ⟨by decide +kernel, by decide +kernel, by decide +kernel⟩, fun h => absurd h (by decide), fun _ => by decide +kernel, by decide, fun h => absurd h (by decide), fun _ => rfl, fun h => absurd h (by decide), fun h => absurd h (by decide)⟩
theorem x_gok138 : x_gok 138 := ⟨rfl, by decide +kernel, ⟨by decide +kernel, by decide +kernel, by decide +kernel⟩, fun h => absurd h (by decide), fun _ => by decide +kernel, by decide, fun h => absurd h (by decide), fun _ => rfl, fun h => absurd h (by decide), fun h => absurd h (by decide)⟩
theorem x_gok139 : x_gok 139 := ⟨rfl, by decide +kernel, ⟨by decide +kernel, by decide +kernel, by decide +kernel⟩, fun h => absurd h (by decide), fun _ => by decide +kernel, by decide, fun h => absurd h (by decide), fun _ => rfl, fun h => absurd h (by decide), fun h => absurd h (by decide)⟩
theorem x_gok140 : x_gok 140 := ⟨rfl, by decide +kernel, ⟨by decide +kernel, by decide +kernel, by decide +kernel⟩, fun h => absurd h (by decide), fun _ => by decide +kernel, by decide, fun h => absurd h (by decide), fun _ => rfl, fun h => absurd h (by decide), fun h => absurd h (by decide)⟩
theorem x_gok141 : x_gok 141 := ⟨rfl, by decide +kernel, ⟨by decide +kernel, by decide +kernel, by decide +kernel⟩, fun h => absurd h (by decide), fun _ => by decide +kernel, by decide, fun h => absurd h (by decide), fun _ => rfl, fun h => absurd h (by decide), fun h => absurd h (by decide)⟩
theorem x_gok142 : x_gok 142 := ⟨rfl, by decide +kernel, ⟨by decide +kernel, by decide +kernel, by decide +kernel⟩, fun h => absurd h (by decide), fun _ => by decide +kernel, by decide, fun h => absurd h (by decide), fun _ => rfl, fun h => absurd h (by decide), fun h => absurd h (by decide)⟩
theorem x_gok143 : x_gok 143 := ⟨rfl, by decide +kernel, ⟨by decide +kernel, by decide +kernel, by decide +kernel⟩, fun h => absurd h (by decide), fun _ => by decide +kernel, by decide, fun h => absurd h (by decide), fun _ => rfl, fun h => absurd h (by decide), fun h => absurd h (by decide)⟩
theorem x_gok144 : x_gok 144 := ⟨rfl, by decide +kernel, ⟨by decide +kernel, by decide +kernel, by decide +kernel⟩, fun h => absurd h (by decide), fun _ => by decide +kernel, by decide, fun h => absurd h (by decide), fun _ => rfl, fun h => absurd h (by decide), fun h => absurd h (by decide)⟩
theorem x_gok145 : x_gok 145 := ⟨rfl, by decide +kernel, ⟨by decide +kernel, by decide +kernel, by decide +kernel⟩, fun h => absurd h (by decide), fun _ => by decide +kernel, by decide, fun _ => rfl, fun h => absurd h (by decide), fun h => absurd h (by decide), fun h => absurd h (by decide)⟩
theorem x_g_ok : ∀ k, k < 146 → x_gok k := by
  have h : ∀ q ∈ List.range 146, x_gok q := List.forall_mem_cons.mpr ⟨x_gok0, List.forall_mem_cons.mpr ⟨x_gok1, List.forall_mem_cons.mpr ⟨x_gok2, List.forall_mem_cons.mpr ⟨x_gok3, List.forall_mem_cons.mpr ⟨x_gok4, List.forall_mem_cons.mpr ⟨x_gok5, List.forall_mem_cons.mpr ⟨x_gok6, List.forall_mem_cons.mpr ⟨x_gok7, List.forall_mem_cons.mpr ⟨x_gok8, List.forall_mem_cons.mpr ⟨x_gok9, List.forall_mem_cons.mpr ⟨x_gok10, List.forall_mem_cons.mpr ⟨x_gok11, List.forall_mem_cons.mpr ⟨x_gok12, List.forall_mem_cons.mpr ⟨x_gok13, List.forall_mem_cons.mpr ⟨x_gok14, List.forall_mem_cons.mpr ⟨x_gok15, List.forall_mem_cons.mpr ⟨x_gok16, List.forall_mem_cons.mpr ⟨x_gok17, List.forall_mem_cons.mpr ⟨x_gok18, List.forall_mem_cons.mpr ⟨x_gok19, List.forall_mem_cons.mpr ⟨x_gok20, List.forall_mem_cons.mpr ⟨x_gok21, List.forall_mem_cons.mpr ⟨x_gok22, List.forall_mem_cons.mpr ⟨x_gok23, List.forall_mem_cons.mpr ⟨x_gok24, List.forall_mem_cons.mpr ⟨x_gok25, List.forall_mem_cons.mpr ⟨x_gok26, List.forall_mem_cons.mpr ⟨x_gok27, List.forall_mem_cons.mpr ⟨x_gok28, List.forall_mem_cons.mpr ⟨x_gok29, List.forall_mem_cons.mpr ⟨x_gok30, List.forall_mem_cons.mpr ⟨x_gok31, List.forall_mem_cons.mpr ⟨x_gok32, List.forall_mem_cons.mpr ⟨x_gok33, List.forall_mem_cons.mpr ⟨x_gok34, List.forall_mem_cons.mpr ⟨x_gok35, List.forall_mem_cons.mpr ⟨x_gok36, List.forall_mem_cons.mpr ⟨x_gok37, List.forall_mem_cons.mpr ⟨x_gok38, List.forall_mem_cons.mpr ⟨x_gok39, List.forall_mem_cons.mpr ⟨x_gok40, List.forall_mem_cons.mpr ⟨x_gok41, List.forall_mem_cons.mpr ⟨x_gok42, List.forall_mem_cons.mpr ⟨x_gok43, List.forall_mem_cons.mpr ⟨x_gok44, List.forall_mem_cons.mpr ⟨x_gok45, List.forall_mem_cons.mpr ⟨x_gok46, List.forall_mem_cons.mpr ⟨x_gok47, List.forall_mem_cons.mpr ⟨x_gok48, List.forall_mem_cons.mpr ⟨x_gok49, List.forall_mem_cons.mpr ⟨x_gok50, List.forall_mem_cons.mpr ⟨x_gok51, List.forall_mem_cons.mpr ⟨x_gok52, List.forall_mem_cons.mpr ⟨x_gok53, List.forall_mem_cons.mpr ⟨x_gok54, List.forall_mem_cons.mpr ⟨x_gok55, List.forall_mem_cons.mpr ⟨x_gok56, List.forall_mem_cons.mpr ⟨x_gok57, List.forall_mem_cons.mpr ⟨x_gok58, List.forall_mem_cons.mpr ⟨x_gok59, List.forall_mem_cons.mpr ⟨x_gok60, List.forall_mem_cons.mpr ⟨x_gok61, List.forall_mem_cons.mpr ⟨x_gok62, List.forall_mem_cons.mpr ⟨x_gok63, List.forall_mem_cons.mpr ⟨x_gok64, List.forall_mem_cons.mpr ⟨x_gok65, List.forall_mem_cons.mpr ⟨x_gok66, List.forall_mem_cons.mpr ⟨x_gok67, List.forall_mem_cons.mpr ⟨x_gok68, List.forall_mem_cons.mpr ⟨x_gok69, List.forall_mem_cons.mpr ⟨x_gok70, List.forall_mem_cons.mpr ⟨x_gok71, List.forall_mem_cons.mpr ⟨x_gok72, List.forall_mem_cons.mpr ⟨x_gok73, List.forall_mem_cons.mpr ⟨x_gok74, List.forall_mem_cons.mpr ⟨x_gok75, List.forall_mem_cons.mpr ⟨x_gok76, List.forall_mem_cons.mpr ⟨x_gok77, List.forall_mem_cons.mpr ⟨x_gok78, List.forall_mem_cons.mpr ⟨x_gok79, List.forall_mem_cons.mpr ⟨x_gok80, List.forall_mem_cons.mpr ⟨x_gok81, List.forall_mem_cons.mpr ⟨x_gok82, List.forall_mem_cons.mpr ⟨x_gok83, List.forall_mem_cons.mpr ⟨x_gok84, List.forall_mem_cons.mpr ⟨x_gok85, List.forall_mem_cons.mpr ⟨x_gok86, List.forall_mem_cons.mpr ⟨x_gok87, List.forall_mem_cons.mpr ⟨x_gok88, List.forall_mem_cons.mpr ⟨x_gok89, List.forall_mem_cons.mpr ⟨x_gok90, List.forall_mem_cons.mpr ⟨x_gok91, List.forall_mem_cons.mpr ⟨x_gok92, List.forall_mem_cons.mpr ⟨x_gok93, List.forall_mem_cons.mpr ⟨x_gok94, List.forall_mem_cons.mpr ⟨x_gok95, List.forall_mem_cons.mpr ⟨x_gok96, List.forall_mem_cons.mpr ⟨x_gok97, List.forall_mem_cons.mpr ⟨x_gok98, List.forall_mem_cons.mpr ⟨x_gok99, List.forall_mem_cons.mpr ⟨x_gok100, List.forall_mem_cons.mpr ⟨x_gok101, List.forall_mem_cons.mpr ⟨x_gok102, List.forall_mem_cons.mpr ⟨x_gok103, List.forall_mem_cons.mpr ⟨x_gok104, List.forall_mem_cons.mpr ⟨x_gok105, List.forall_mem_cons.mpr ⟨x_gok106, List.forall_mem_cons.mpr ⟨x_gok107, List.forall_mem_cons.mpr ⟨x_gok108, List.forall_mem_cons.mpr ⟨x_gok109, List.forall_mem_cons.mpr ⟨x_gok110, List.forall_mem_cons.mpr ⟨x_gok111, List.forall_mem_cons.mpr ⟨x_gok112, List.forall_mem_cons.mpr ⟨x_gok113, List.forall_mem_cons.mpr ⟨x_gok114, List.forall_mem_cons.mpr ⟨x_gok115, List.forall_mem_cons.mpr ⟨x_gok116, List.forall_mem_cons.mpr ⟨x_gok117, List.forall_mem_cons.mpr ⟨x_gok118, List.forall_mem_cons.mpr ⟨x_gok119, List.forall_mem_cons.mpr ⟨x_gok120, List.forall_mem_cons.mpr ⟨x_gok121, List.forall_mem_cons.mpr ⟨x_gok122, List.forall_mem_cons.mpr ⟨x_gok123, List.forall_mem_cons.mpr ⟨x_gok124, List.forall_mem_cons.mpr ⟨x_gok125, List.forall_mem_cons.mpr ⟨x_gok126, List.forall_mem_cons.mpr ⟨x_gok127, List.forall_mem_cons.mpr ⟨x_gok128, List.forall_mem_cons.mpr ⟨x_gok129, List.forall_mem_cons.mpr ⟨x_gok130, List.forall_mem_cons.mpr ⟨x_gok131, List.forall_mem_cons.mpr ⟨x_gok132, List.forall_mem_cons.mpr ⟨x_gok133, List.forall_mem_cons.mpr ⟨x_gok134, List.forall_mem_cons.mpr ⟨x_gok135, List.forall_mem_cons.mpr ⟨x_gok136, List.forall_mem_cons.mpr ⟨x_gok137, List.forall_mem_cons.mpr ⟨x_gok138, List.forall_mem_cons.mpr ⟨x_gok139, List.forall_mem_cons.mpr ⟨x_gok140, List.forall_mem_cons.mpr ⟨x_gok141, List.forall_mem_cons.mpr ⟨x_gok142, List.forall_mem_cons.mpr ⟨x_gok143, List.forall_mem_cons.mpr ⟨x_gok144, List.forall_mem_cons.mpr ⟨x_gok145, fun _ h => absurd h List.not_mem_nil⟩⟩⟩⟩⟩⟩⟩⟩⟩⟩⟩⟩⟩⟩⟩⟩⟩⟩⟩⟩⟩⟩⟩⟩⟩⟩⟩⟩⟩⟩⟩⟩⟩⟩⟩⟩⟩⟩⟩⟩⟩⟩⟩⟩⟩⟩⟩⟩⟩⟩⟩⟩⟩⟩⟩⟩⟩⟩⟩⟩⟩⟩⟩⟩⟩⟩⟩⟩⟩⟩⟩⟩⟩⟩⟩⟩⟩⟩⟩⟩⟩⟩⟩⟩⟩⟩⟩⟩⟩⟩⟩⟩⟩⟩⟩⟩⟩⟩⟩⟩⟩⟩⟩⟩⟩⟩⟩⟩⟩⟩⟩⟩⟩⟩⟩⟩⟩⟩⟩⟩⟩⟩⟩⟩⟩⟩⟩⟩⟩⟩⟩⟩⟩⟩⟩⟩⟩⟩⟩⟩⟩⟩⟩⟩⟩⟩
  exact fun k hk => h k (List.mem_range.mpr hk)
