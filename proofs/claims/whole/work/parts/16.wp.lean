/-! the whole of it: x_go d n k M as: method k, calls at most d deep, n steps at most in a frame; Wp and Ev: it comes to an end, and Q holds there -/
def x_us (x : Int64) (y : Int32) : Int64 := (x.toUInt64 >>> (y.toInt64.toUInt64 &&& Int64.toUInt64 63)).toInt64
def x_bA (x : Int64) : Int64 := x - (x_us x 1 &&& 6148914691236517205)
def x_bB (a : Int64) : Int64 := (a &&& 3689348814741910323) + (x_us a 2 &&& 3689348814741910323)
def x_bC (b : Int64) : Int64 := (b + x_us b 4) &&& 1085102592571150095
def x_bD (c : Int64) : Int64 := c + x_us c 8
def x_bE (c : Int64) : Int64 := c + x_us c 16
def x_bF (c : Int64) : Int64 := c + x_us c 32
/-- Long.bitCount, as it is reckoned -/
def x_bc (x : Int64) : Int32 := (x_bF (x_bE (x_bD (x_bC (x_bB (x_bA x)))))).toInt32 &&& 127
def x_go : Nat → Nat → xCal
  | 0, _ => fun _ _ _ => none
  | d + 1, n => fun k M as => if k = x_kB then (match as with
      | [.long x] => some (M, some (.int (x_bc x)))
      | _ => none)
    else match x_en (x_nL k) as with
      | none => none
      | some ls => x_run x_ec d (x_P k) (x_rk k) (x_go d n) n (0, ls, [], M)
theorem x_go_mono : ∀ (d n n' k : Nat) (M : xM) (as : List Value) (r : xM × Option Value), n ≤ n' → x_go d n k M as = some r → x_go d n' k M as = some r := by
  intro d
  induction d with
  | zero => intro n n' k M as r _ h; simp [x_go] at h
  | succ d ih =>
    intro n n' k M as r hn h
    simp only [x_go] at h ⊢
    split at h
    · rename_i hk; rw [if_pos hk]; exact h
    · rename_i hk
      rw [if_neg hk]
      cases he : x_en (x_nL k) as with
      | none => rw [he] at h; simp at h
      | some ls =>
        rw [he] at h
        simp only at h ⊢
        exact x_run_mono (fun k M as r hq => ih n n' k M as r hn hq) n n' _ r hn h
theorem x_go_good : ∀ (d n : Nat), x_gC (x_go d n) := by
  intro d
  induction d with
  | zero => intro n k M as r _ _ h; simp [x_go] at h
  | succ d ih =>
    intro n k M as r hM ha h
    simp only [x_go] at h
    split at h
    · split at h
      · cases h
        exact ⟨hM, List.prefix_refl _, fun u hu => by cases hu; exact x_wV_int⟩
      · cases h
    · cases he : x_en (x_nL k) as with
      | none => rw [he] at h; simp at h
      | some ls =>
        rw [he] at h
        simp only at h
        exact x_run_good (ih n) n _ r (x_en_G he hM ha).1 h
def Wp (d k pc : Nat) (ls : xL) (st : List Value) (M : xM) (Q : xM → Option Value → Prop) : Prop := ∃ n M' v, x_run x_ec d (x_P k) (x_rk k) (x_go d n) n (pc, ls, st, M) = some (M', v) ∧ Q M' v
def Ev (d k : Nat) (M : xM) (as : List Value) (Q : xM → Option Value → Prop) : Prop := ∃ n M' v, x_go d n k M as = some (M', v) ∧ Q M' v
theorem Ev.imp {d k : Nat} {M : xM} {as : List Value} {Q Q' : xM → Option Value → Prop} (h : Ev d k M as Q) (hi : ∀ M' v, Q M' v → Q' M' v) : Ev d k M as Q' := by
  obtain ⟨n, M', v, h1, h2⟩ := h
  exact ⟨n, M', v, h1, hi _ _ h2⟩
theorem Wp.imp {d k pc : Nat} {ls : xL} {st : List Value} {M : xM} {Q Q' : xM → Option Value → Prop} (h : Wp d k pc ls st M Q) (hi : ∀ M' v, Q M' v → Q' M' v) : Wp d k pc ls st M Q' := by
  obtain ⟨n, M', v, h1, h2⟩ := h
  exact ⟨n, M', v, h1, hi _ _ h2⟩
theorem Ev.of {d k : Nat} {M : xM} {as : List Value} {Q : xM → Option Value → Prop} {ls : xL} (hk : (decide (k = x_kB)) = false) (he : x_en (x_nL k) as = some ls) (h : Wp d k 0 ls [] M Q) : Ev (d + 1) k M as Q := by
  obtain ⟨n, M', v, h1, h2⟩ := h
  refine ⟨n, M', v, ?_, h2⟩
  simp only [x_go]
  rw [if_neg (by simpa using hk), he]
  exact h1
section WPR
variable {d k pc pc' nx : Nat} {ls ls' : xL} {st st' : List Value} {M M' : xM} {Q : xM → Option Value → Prop} {e : xE}
theorem Wp.go (hp : x_P k pc = some e) (hs : x_st x_ec d e ls st M = some (pc', ls', st', M')) (h : Wp d k pc' ls' st' M' Q) : Wp d k pc ls st M Q := by
  obtain ⟨n, M1, v, h1, h2⟩ := h
  refine ⟨n + 1, M1, v, ?_, h2⟩
  simp only [x_run, hp, hs]
  exact x_run_mono (fun k M as r hq => x_go_mono d n (n + 1) k M as r (Nat.le_succ _) hq) n n _ _ (Nat.le_refl _) h1
theorem Wp.cl {k' : Nat} {as r : List Value} {Q' : xM → Option Value → Prop} (hp : x_P k pc = some e) (hs : x_st x_ec d e ls st M = none) (hc : x_cl e st M = some (k', as, r)) (he : Ev d k' M as Q') (h : ∀ M' v, Q' M' v → Wp d k e.2.1 ls (v.toList ++ r) M' Q) : Wp d k pc ls st M Q := by
  obtain ⟨n1, M1, v, h1, h2⟩ := he
  obtain ⟨n2, M2, v2, h3, h4⟩ := h M1 v h2
  refine ⟨max n1 n2 + 1, M2, v2, ?_, h4⟩
  simp only [x_run, hp, hs, hc, x_go_mono d n1 (max n1 n2 + 1) k' M as _ (by omega) h1]
  exact x_run_mono (fun k M as r hq => x_go_mono d n2 (max n1 n2 + 1) k M as r (by omega) hq) n2 _ _ _ (by omega) h3
theorem Wp.rt {v : Option Value} (hp : x_P k pc = some e) (hs : x_st x_ec d e ls st M = none) (hc : x_cl e st M = none) (hr : x_rt (x_rk k) e st = some v) (h : Q M v) : Wp d k pc ls st M Q := by
  refine ⟨1, M, v, ?_, h⟩
  simp only [x_run, hp, hs, hc, hr]
/-- a return of a boolean -/
theorem Wp.rz {nx : Nat} {c v : Int32} {xs : List Nat} (hp : x_P k pc = some (.ireturn, nx, c, xs)) (hr : x_rk k = 2) (hv : v = 0 ∨ v = 1) (h : Q M (some (.int v))) : Wp d k pc ls [.int v] M Q :=
  Wp.rt hp rfl rfl (by rw [hr]; exact if_pos hv) h
theorem Wp.br {c : Prop} [Decidable c] {a b : Nat} (h1 : c → Wp d k a ls st M Q) (h2 : ¬ c → Wp d k b ls st M Q) : Wp d k (if decide c = true then a else b) ls st M Q := by
  by_cases hc : c
  · rw [if_pos (by simpa using hc)]; exact h1 hc
  · rw [if_neg (by simpa using hc)]; exact h2 hc
theorem Wp.gi {ix ci n j a : Nat} {c : Int32} (hp : x_P k pc = some (.getfield ix, nx, c, [ci, n, j, 0])) (hk : M.1[a]? = some (false, ci, n)) (h : Wp d k nx ls (.int (M.2.1 a j) :: st) M Q) : Wp d k pc ls (.ref a :: st) M Q :=
  Wp.go hp (if_pos hk) h
theorem Wp.gz {ix ci n j a : Nat} {c : Int32} (hp : x_P k pc = some (.getfield ix, nx, c, [ci, n, j, 1])) (hk : M.1[a]? = some (false, ci, n)) (h : Wp d k nx ls (.int (M.2.1 a j) :: st) M Q) : Wp d k pc ls (.ref a :: st) M Q :=
  Wp.go hp (if_pos hk) h
theorem Wp.gl {ix ci n j a : Nat} {c : Int32} (hp : x_P k pc = some (.getfield ix, nx, c, [ci, n, j, 2])) (hk : M.1[a]? = some (false, ci, n)) (h : Wp d k nx ls (.long (M.2.2.1 a j) :: st) M Q) : Wp d k pc ls (.ref a :: st) M Q :=
  Wp.go hp (if_pos hk) h
theorem Wp.gr {ix ci n j a b : Nat} {c : Int32} (hp : x_P k pc = some (.getfield ix, nx, c, [ci, n, j, 3])) (hk : M.1[a]? = some (false, ci, n)) (hr : M.2.2.2 a j = some b) (h : Wp d k nx ls (.ref b :: st) M Q) : Wp d k pc ls (.ref a :: st) M Q :=
  Wp.go hp ((if_pos hk).trans (by show some (nx, ls, va_rf (M.2.2.2 a j) :: st, M) = _; rw [hr]; rfl)) h
theorem Wp.gn {ix ci n j a : Nat} {c : Int32} (hp : x_P k pc = some (.getfield ix, nx, c, [ci, n, j, 3])) (hk : M.1[a]? = some (false, ci, n)) (hr : M.2.2.2 a j = none) (h : Wp d k nx ls (.null :: st) M Q) : Wp d k pc ls (.ref a :: st) M Q :=
  Wp.go hp ((if_pos hk).trans (by show some (nx, ls, va_rf (M.2.2.2 a j) :: st, M) = _; rw [hr]; rfl)) h
theorem Wp.pi {ix ci n j a : Nat} {c x : Int32} (hp : x_P k pc = some (.putfield ix, nx, c, [ci, n, j, 0])) (hk : M.1[a]? = some (false, ci, n)) (h : Wp d k nx ls st (M.1, x_u M.2.1 a j x, M.2.2) Q) : Wp d k pc ls (.int x :: .ref a :: st) M Q :=
  Wp.go hp (if_pos hk) h
theorem Wp.pz {ix ci n j a : Nat} {c x : Int32} (hp : x_P k pc = some (.putfield ix, nx, c, [ci, n, j, 1])) (hk : M.1[a]? = some (false, ci, n)) (hx : x = 0 ∨ x = 1) (h : Wp d k nx ls st (M.1, x_u M.2.1 a j x, M.2.2) Q) : Wp d k pc ls (.int x :: .ref a :: st) M Q :=
  Wp.go hp ((if_pos hk).trans (by show Option.map _ (if x = 0 ∨ x = 1 then _ else _) = _; rw [if_pos hx]; rfl)) h
theorem Wp.pl {ix ci n j a : Nat} {c : Int32} {x : Int64} (hp : x_P k pc = some (.putfield ix, nx, c, [ci, n, j, 2])) (hk : M.1[a]? = some (false, ci, n)) (h : Wp d k nx ls st (M.1, M.2.1, x_u M.2.2.1 a j x, M.2.2.2) Q) : Wp d k pc ls (.long x :: .ref a :: st) M Q :=
  Wp.go hp (if_pos hk) h
theorem Wp.pr {ix ci n j a b : Nat} {c : Int32} (hp : x_P k pc = some (.putfield ix, nx, c, [ci, n, j, 3])) (hk : M.1[a]? = some (false, ci, n)) (h : Wp d k nx ls st (M.1, M.2.1, M.2.2.1, x_u M.2.2.2 a j (some b)) Q) : Wp d k pc ls (.ref b :: .ref a :: st) M Q :=
  Wp.go hp (if_pos hk) h
theorem Wp.pn {ix ci n j a : Nat} {c : Int32} (hp : x_P k pc = some (.putfield ix, nx, c, [ci, n, j, 3])) (hk : M.1[a]? = some (false, ci, n)) (h : Wp d k nx ls st (M.1, M.2.1, M.2.2.1, x_u M.2.2.2 a j none) Q) : Wp d k pc ls (.null :: .ref a :: st) M Q :=
  Wp.go hp (if_pos hk) h
theorem x_ix {i n : Nat} (hi : i < n) (hn : n ≤ 65536) : ¬ nI i < 0 ∧ (nI i).toNatClampNeg = i := ⟨nI_pos (by omega), nI_clamp (by omega)⟩
theorem Wp.ai {n a i : Nat} {c : Int32} {xs : List Nat} (hp : x_P k pc = some (.iaload, nx, c, xs)) (hk : M.1[a]? = some (true, 0, n)) (hi : i < n) (hn : n ≤ 65536) (h : Wp d k nx ls (.int (M.2.1 a i) :: st) M Q) : Wp d k pc ls (.int (nI i) :: .ref a :: st) M Q := by
  obtain ⟨h1, h2⟩ := x_ix hi hn
  refine Wp.go hp ?_ h
  simp [x_st, x_al, hk, h1, h2, hi]
theorem Wp.az {n a i : Nat} {c : Int32} {xs : List Nat} (hp : x_P k pc = some (.baload, nx, c, xs)) (hk : M.1[a]? = some (true, 1, n)) (hi : i < n) (hn : n ≤ 65536) (h : Wp d k nx ls (.int (M.2.1 a i) :: st) M Q) : Wp d k pc ls (.int (nI i) :: .ref a :: st) M Q := by
  obtain ⟨h1, h2⟩ := x_ix hi hn
  refine Wp.go hp ?_ h
  simp [x_st, x_al, hk, h1, h2, hi]
theorem Wp.aq {n a i t b : Nat} {c : Int32} {xs : List Nat} (hp : x_P k pc = some (.aaload, nx, c, xs)) (hk : M.1[a]? = some (true, t, n)) (ht : 2 ≤ t ∧ t < 5) (hi : i < n) (hn : n ≤ 65536) (hr : M.2.2.2 a i = some b) (h : Wp d k nx ls (.ref b :: st) M Q) : Wp d k pc ls (.int (nI i) :: .ref a :: st) M Q := by
  obtain ⟨h1, h2⟩ := x_ix hi hn
  refine Wp.go hp ?_ h
  simp [x_st, x_aq, hk, h1, h2, hi, ht, hr, va_rf]
theorem Wp.si {n a i : Nat} {c x : Int32} {xs : List Nat} (hp : x_P k pc = some (.iastore, nx, c, xs)) (hk : M.1[a]? = some (true, 0, n)) (hi : i < n) (hn : n ≤ 65536) (h : Wp d k nx ls st (M.1, x_u M.2.1 a i x, M.2.2) Q) : Wp d k pc ls (.int x :: .int (nI i) :: .ref a :: st) M Q := by
  obtain ⟨h1, h2⟩ := x_ix hi hn
  refine Wp.go hp ?_ h
  simp [x_st, x_as, hk, h1, h2, hi]
theorem Wp.sz {n a i : Nat} {c x : Int32} {xs : List Nat} (hp : x_P k pc = some (.bastore, nx, c, xs)) (hk : M.1[a]? = some (true, 1, n)) (hi : i < n) (hn : n ≤ 65536) (hx : x = 0 ∨ x = 1) (h : Wp d k nx ls st (M.1, x_u M.2.1 a i x, M.2.2) Q) : Wp d k pc ls (.int x :: .int (nI i) :: .ref a :: st) M Q := by
  obtain ⟨h1, h2⟩ := x_ix hi hn
  refine Wp.go hp ?_ h
  simp [x_st, x_as, hk, h1, h2, hi, hx]
theorem Wp.sq {n a i t b ci m : Nat} {c : Int32} {xs : List Nat} (hp : x_P k pc = some (.aastore, nx, c, xs)) (hk : M.1[a]? = some (true, t, n)) (ht : 2 ≤ t ∧ t < 5) (hb : M.1[b]? = some (false, ci, m)) (he : x_ec t = ci) (hi : i < n) (hn : n ≤ 65536) (h : Wp d k nx ls st (M.1, M.2.1, M.2.2.1, x_u M.2.2.2 a i (some b)) Q) : Wp d k pc ls (.ref b :: .int (nI i) :: .ref a :: st) M Q := by
  obtain ⟨h1, h2⟩ := x_ix hi hn
  refine Wp.go hp ?_ h
  simp [x_st, x_sq, hk, hb, h1, h2, hi, ht, he]
theorem Wp.sn {n a i t : Nat} {c : Int32} {xs : List Nat} (hp : x_P k pc = some (.aastore, nx, c, xs)) (hk : M.1[a]? = some (true, t, n)) (ht : 2 ≤ t ∧ t < 5) (hi : i < n) (hn : n ≤ 65536) (h : Wp d k nx ls st (M.1, M.2.1, M.2.2.1, x_u M.2.2.2 a i none) Q) : Wp d k pc ls (.null :: .int (nI i) :: .ref a :: st) M Q := by
  obtain ⟨h1, h2⟩ := x_ix hi hn
  refine Wp.go hp ?_ h
  simp [x_st, x_sq, hk, h1, h2, hi, ht]
theorem Wp.na {at' : ArrayType} {n t : Nat} {c : Int32} (hp : x_P k pc = some (.newarray at', nx, c, [t])) (hn : n ≤ 65536) (h : Wp d k nx ls (.ref M.1.length :: st) (x_new M (true, t, n)) Q) : Wp d k pc ls (.int (nI n) :: st) M Q := by
  have h1 : ¬ nI n < 0 := nI_pos (by omega)
  have h2 : (nI n).toNatClampNeg = n := nI_clamp (by omega)
  refine Wp.go hp ?_ h
  simp [x_st, x_na, h1, h2, hn]
theorem Wp.nq {ix n t : Nat} {c : Int32} (hp : x_P k pc = some (.anewarray ix, nx, c, [t])) (hn : n ≤ 65536) (h : Wp d k nx ls (.ref M.1.length :: st) (x_new M (true, t, n)) Q) : Wp d k pc ls (.int (nI n) :: st) M Q := by
  have h1 : ¬ nI n < 0 := nI_pos (by omega)
  have h2 : (nI n).toNatClampNeg = n := nI_clamp (by omega)
  refine Wp.go hp ?_ h
  simp [x_st, x_na, h1, h2, hn]
theorem Wp.ln {n a : Nat} {c : Int32} {xs : List Nat} (hp : x_P k pc = some (.arraylength, nx, c, xs)) (hk : M.1[a]? = some (true, 0, n)) (h : Wp d k nx ls (.int (nI n) :: st) M Q) : Wp d k pc ls (.ref a :: st) M Q := by
  refine Wp.go hp ?_ h
  simp [x_st, x_ln, hk]
/-- a call of a virtual method; the receiver's kind is in hand -/
theorem Wp.cv {ix k' ci na b m : Nat} {c : Int32} {as r : List Value} {Q' : xM → Option Value → Prop} (hp : x_P k pc = some (.invokevirtual ix, nx, c, [0, k', ci, na])) (hst : (st.take na).reverse = .ref b :: as) (hr : st.drop na = r) (hl : na ≤ st.length) (hk : M.1[b]? = some (false, ci, m)) (hc : (r.map fun v => v.category).sum ≤ 8)
    (he : Ev d k' M (.ref b :: as) Q') (h : ∀ M' v, Q' M' v → Wp d k nx ls (v.toList ++ r) M' Q) : Wp d k pc ls st M Q := by
  subst hr
  refine Wp.cl hp ?_ ?_ he h
  · cases d <;> simp [x_st, x_iv]
  · simp [x_cl, hl, hst, hk]
    rw [← List.map_drop]; exact hc
theorem Wp.cs {ix kd k' ci na : Nat} {c : Int32} {as r : List Value} {Q' : xM → Option Value → Prop} (hp : x_P k pc = some (.invokestatic ix, nx, c, [kd, k', ci, na])) (hst : (st.take na).reverse = as) (hr : st.drop na = r) (hl : na ≤ st.length) (hc : (r.map fun v => v.category).sum ≤ 8)
    (he : Ev d k' M as Q') (h : ∀ M' v, Q' M' v → Wp d k nx ls (v.toList ++ r) M' Q) : Wp d k pc ls st M Q := by
  subst hr
  subst hst
  refine Wp.cl hp ?_ ?_ he h
  · simp [x_st]
  · simp [x_cl, hl]
    rw [← List.map_drop]; exact hc
/-- a constructor: 3, or 6 where it's a nest mate's private one -/
theorem Wp.ci {ix kd k' ci na b : Nat} {c : Int32} {as r : List Value} {Q' : xM → Option Value → Prop} (hp : x_P k pc = some (.invokespecial ix, nx, c, [kd, k', ci, na])) (hkd : kd = 3 ∨ kd = 6) (hst : (st.take na).reverse = .ref b :: as) (hr : st.drop na = r) (hl : na ≤ st.length) (hc : (r.map fun v => v.category).sum ≤ 8)
    (he : Ev d k' M (.ref b :: as) Q') (h : ∀ M' v, Q' M' v → Wp d k nx ls (v.toList ++ r) M' Q) : Wp d k pc ls st M Q := by
  subst hr
  refine Wp.cl hp ?_ ?_ he h
  · cases d <;> rcases hkd with rfl | rfl <;> simp [x_st, x_iv]
  · simp [x_cl, hl, hst, hkd]
    rw [← List.map_drop]; exact hc
end WPR
