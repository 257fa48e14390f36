/-! rules of the memory's level: comparisons of indices, new cells, messages -/
section WPN
variable {d k pc nx : Nat} {ls : xL} {st r : List Value} {M M1 : xM} {Q : xM → Option Value → Prop} {c : Int32}
theorem Wp.lt {x y a b : Nat} (hx : x < 2 ^ 31) (hy : y < 2 ^ 31) (h1 : x < y → Wp d k a ls st M Q) (h2 : y ≤ x → Wp d k b ls st M Q) : Wp d k (if decide (nI x < nI y) = true then a else b) ls st M Q :=
  Wp.br (fun h => h1 ((nI_ltI hx hy).mp h)) (fun h => h2 (Nat.not_lt.mp fun q => h ((nI_ltI hx hy).mpr q)))
theorem Wp.le {x y a b : Nat} (hx : x < 2 ^ 31) (hy : y < 2 ^ 31) (h1 : x ≤ y → Wp d k a ls st M Q) (h2 : y < x → Wp d k b ls st M Q) : Wp d k (if decide (nI x ≤ nI y) = true then a else b) ls st M Q :=
  Wp.br (fun h => h1 ((nI_leI hx hy).mp h)) (fun h => h2 (Nat.not_le.mp fun q => h ((nI_leI hx hy).mpr q)))
theorem Wp.eq {x y a b : Nat} (hx : x < 2 ^ 31) (hy : y < 2 ^ 31) (h1 : x = y → Wp d k a ls st M Q) (h2 : x ≠ y → Wp d k b ls st M Q) : Wp d k (if decide (nI x = nI y) = true then a else b) ls st M Q :=
  Wp.br (fun h => h1 ((nI_eq hx hy).mp h)) (fun h => h2 (fun q => h ((nI_eq hx hy).mpr q)))
theorem Wp.ne {x y a b : Nat} (hx : x < 2 ^ 31) (hy : y < 2 ^ 31) (h1 : x ≠ y → Wp d k a ls st M Q) (h2 : x = y → Wp d k b ls st M Q) : Wp d k (if decide (nI x ≠ nI y) = true then a else b) ls st M Q :=
  Wp.br (fun h => h1 (fun q => h ((nI_eq hx hy).mpr q))) (fun h => h2 (Classical.byContradiction fun q => h (fun z => q ((nI_eq hx hy).mp z))))
theorem Wp.lt0 {x a b : Nat} (hx : x < 2 ^ 31) (h2 : Wp d k b ls st M Q) : Wp d k (if decide (nI x < 0) = true then a else b) ls st M Q :=
  Wp.br (fun h => absurd h (nI_pos hx)) (fun _ => h2)
theorem Wp.ge0 {x a b : Nat} (hx : x < 2 ^ 31) (h2 : Wp d k a ls st M Q) : Wp d k (if decide (0 ≤ nI x) = true then a else b) ls st M Q :=
  Wp.br (fun _ => h2) (fun h => absurd (nI_pos' hx) h)
theorem Wp.addn {x y : Nat} {x' y' : Int32} {xs : List Nat} (hp : x_P k pc = some (.iadd, nx, c, xs)) (hx : x' = nI x) (hy : y' = nI y) (h : Wp d k nx ls (.int (nI (x + y)) :: st) M Q) : Wp d k pc ls (.int y' :: .int x' :: st) M Q := by
  subst hx
  subst hy
  rw [← nI_add] at h
  exact Wp.go hp rfl h
theorem Wp.muln {x y : Nat} {x' y' : Int32} {xs : List Nat} (hp : x_P k pc = some (.imul, nx, c, xs)) (hx : x' = nI x) (hy : y' = nI y) (h : Wp d k nx ls (.int (nI (x * y)) :: st) M Q) : Wp d k pc ls (.int y' :: .int x' :: st) M Q := by
  subst hx
  subst hy
  rw [← pk_mul] at h
  exact Wp.go hp rfl h
theorem Wp.subn {x y : Nat} {x' y' : Int32} {xs : List Nat} (hp : x_P k pc = some (.isub, nx, c, xs)) (hx : x' = nI x) (hy : y' = nI y) (hxy : y ≤ x) (h : Wp d k nx ls (.int (nI (x - y)) :: st) M Q) : Wp d k pc ls (.int y' :: .int x' :: st) M Q := by
  subst hx
  subst hy
  rw [← pk_sub hxy] at h
  exact Wp.go hp rfl h
theorem Wp.incn {x y j i : Nat} {v : Int} (hp : x_P k pc = some (.iinc j v, nx, nI y, [i])) (hl : ls[i]? = some (some (.int (nI x)))) (h : Wp d k nx (ls.set i (some (.int (nI (x + y))))) st M Q) : Wp d k pc ls st M Q := by
  refine Wp.go hp ?_ h
  simp only [x_st, x_in, hl, nI_add]
theorem Wp.bz {d k : Nat} {ls : xL} {st : List Value} {M : xM} {Q : xM → Option Value → Prop} {b : Bool} {x y : Nat} (h1 : b = false → Wp d k x ls st M Q) (h2 : b = true → Wp d k y ls st M Q) : Wp d k (if decide (bI b = 0) = true then x else y) ls st M Q :=
  Wp.br (fun h => h1 (bI_0.mp h)) (fun h => h2 (bI_n.mp h))
theorem Wp.bn {d k : Nat} {ls : xL} {st : List Value} {M : xM} {Q : xM → Option Value → Prop} {b : Bool} {x y : Nat} (h1 : b = true → Wp d k x ls st M Q) (h2 : b = false → Wp d k y ls st M Q) : Wp d k (if decide (bI b ≠ 0) = true then x else y) ls st M Q :=
  Wp.br (fun h => h1 (bI_n.mp h)) (fun h => h2 (bI_0.mp (Classical.not_not.mp h)))
theorem Wp.decn {d k pc nx x j i : Nat} {v : Int} {ls : xL} {st : List Value} {M : xM} {Q : xM → Option Value → Prop} (hp : x_P k pc = some (.iinc j v, nx, -1, [i])) (hl : ls[i]? = some (some (.int (nI (x + 1))))) (h : Wp d k nx (ls.set i (some (.int (nI x)))) st M Q) : Wp d k pc ls st M Q := by
  refine Wp.go hp ?_ h
  have hx : nI (x + 1) + -1 = nI x := by
    rw [← nI_add, Int32.add_assoc]
    show nI x + 0 = nI x
    exact Int32.add_zero _
  simp only [x_st, x_in, hl, hx]
theorem Wp.gik {ix ci n j a : Nat} {v : Int32} (hp : x_P k pc = some (.getfield ix, nx, c, [ci, n, j, 0])) (hk : M.1[a]? = some (false, ci, n)) (hv : M.2.1 a j = v) (h : Wp d k nx ls (.int v :: st) M Q) : Wp d k pc ls (.ref a :: st) M Q := Wp.gi hp hk (hv ▸ h)
theorem Wp.aiN {a n i : Nat} {i' : Int32} {xs : List Nat} (hp : x_P k pc = some (.iaload, nx, c, xs)) (hk : M.1[a]? = some (true, 0, n)) (h2 : Nat.ble n 65536 = true) (hx' : i' = nI i) (hi : i < n) (h : Wp d k nx ls (.int (M.2.1 a i) :: st) M Q) : Wp d k pc ls (.int i' :: .ref a :: st) M Q := by
  subst hx'
  exact Wp.ai hp hk hi (Nat.le_of_ble_eq_true h2) h
theorem Wp.aik {a n i : Nat} {i' v : Int32} {xs : List Nat} (hp : x_P k pc = some (.iaload, nx, c, xs)) (hk : M.1[a]? = some (true, 0, n)) (h2 : Nat.ble n 65536 = true) (hx' : i' = nI i) (hi : i < n) (hv : M.2.1 a i = v) (h : Wp d k nx ls (.int v :: st) M Q) : Wp d k pc ls (.int i' :: .ref a :: st) M Q := Wp.aiN hp hk h2 hx' hi (hv ▸ h)
theorem Wp.siN {a n i : Nat} {i' x : Int32} {xs : List Nat} (hp : x_P k pc = some (.iastore, nx, c, xs)) (hk : M.1[a]? = some (true, 0, n)) (h2 : Nat.ble n 65536 = true) (hx' : i' = nI i) (hi : i < n) (h : Wp d k nx ls st (M.1, x_u M.2.1 a i x, M.2.2) Q) : Wp d k pc ls (.int x :: .int i' :: .ref a :: st) M Q := by
  subst hx'
  exact Wp.si hp hk hi (Nat.le_of_ble_eq_true h2) h
theorem Wp.cln {a n ix : Nat} (hp : x_P k pc = some (.invokevirtual ix, nx, c, [9])) (hk : M.1[a]? = some (true, 0, n)) (hc : Nat.ble (r.map fun v => v.category).sum 8 = true) (h : Wp (d + 1) k nx ls (.ref M.1.length :: r) (x_dup M (true, 0, n) a) Q) : Wp (d + 1) k pc ls (.ref a :: r) M Q := by
  refine Wp.go hp ?_ h
  have h8 := Nat.le_of_ble_eq_true hc
  simp only [x_st, x_iv, hk]
  rw [if_pos h8]
theorem Wp.cc {a n ix : Nat} {xs : List Nat} (hp : x_P k pc = some (.checkcast ix, nx, c, xs)) (hk : M.1[a]? = some (true, 0, n)) (h : Wp d k nx ls (.ref a :: st) M Q) : Wp d k pc ls (.ref a :: st) M Q := by
  refine Wp.go hp ?_ h
  simp only [x_st, x_cc, hk]
theorem Wp.ts {v lo t t' : Nat} {ts : List Nat} {d1 d2 d3 : Int} {offs : Array Int} (hp : x_P k pc = some (.tableswitch d1 d2 d3 offs, nx, c, lo :: t :: ts)) (hv : v < 2 ^ 31) (ht : (if v < lo then t else ts.getD (v - lo) t) = t') (h : Wp d k t' ls st M Q) : Wp d k pc ls (.int (nI v) :: st) M Q := by
  subst ht
  rw [← x_tsN hv] at h
  exact Wp.go hp rfl h
theorem Wp.csM {M2 : xM} (h : M1 = M2) (hk : Wp d k pc ls st M2 Q) : Wp d k pc ls st M1 Q := h ▸ hk
end WPN
theorem ER.ev {d k : Nat} {M : xM} {as : List Value} {J : xI} {w : Option Value} (h : ER (zO M) d k M.2.1 as (fun I' v => I' = J ∧ v = w)) : Ev d k M as (fun M' v => M' = (M.1, J, M.2.2) ∧ v = w) :=
  Ev.imp h (fun M' v hq => by obtain ⟨I', rfl, rfl, rfl⟩ := hq; exact ⟨rfl, rfl⟩)
theorem ER.ev0 {d k : Nat} {M : xM} {as : List Value} {w : Option Value} (h : ER (zO M) d k M.2.1 as (fun I' v => I' = M.2.1 ∧ v = w)) : Ev d k M as (fun M' v => M' = M ∧ v = w) := ER.ev h
