/-! the reference: it makes no cell and changes ints alone: rules over its ints I (addresses 74 to 107); Z is the rest of the memory -/
abbrev xI : Type := Nat → Nat → Int32
abbrev xZ : Type := List xK × (Nat → Nat → Int64) × (Nat → Nat → Option Nat)
def zM (Z : xZ) (I : xI) : xM := (Z.1, I, Z.2.1, Z.2.2)
def x_rj : List (Option Nat) := [none, some 75, some 76, some 77, some 78, some 79, some 80, none, some 81, some 82, some 83, some 84, some 85, some 86, some 87, some 88, some 89, some 90, some 91, some 92, none, none, some 93, some 94, some 95, some 96, some 97, some 98, some 99, some 100, some 101, none, none, none, none, none, some 102, some 103, some 104, some 105, some 106, some 107]
def zok (Z : xZ) : Prop := (∀ a, 74 ≤ a → a < 108 → Z.1[a]? = x_K0[a]?) ∧ ∀ j a, x_rj[j]? = some (some a) → Z.2.2 74 j = some a
def WR (Z : xZ) (d k pc : Nat) (ls : xL) (st : List Value) (I : xI) (Q : xI → Option Value → Prop) : Prop := Wp d k pc ls st (zM Z I) (fun M' v => ∃ I', M' = zM Z I' ∧ Q I' v)
def ER (Z : xZ) (d k : Nat) (I : xI) (as : List Value) (Q : xI → Option Value → Prop) : Prop := Ev d k (zM Z I) as (fun M' v => ∃ I', M' = zM Z I' ∧ Q I' v)
section XWR
variable {Z : xZ} {d k pc pc' nx : Nat} {ls ls' : xL} {st st' r : List Value} {I I1 : xI} {Q : xI → Option Value → Prop} {e : xE} {c : Int32}
theorem zok.at (hz : zok Z) {a : Nat} {kd : xK} (h : x_K0[a]? = some kd) (h1 : Nat.ble 74 a = true) : (zM Z I).1[a]? = some kd := by
  have ha : a < 108 := x_lt h
  rw [← h]
  exact hz.1 a (Nat.le_of_ble_eq_true h1) ha
theorem ER.of {as : List Value} {ls : xL} (hk : (decide (k = x_kB)) = false) (he : x_en (x_nL k) as = some ls) (h : WR Z d k 0 ls [] I Q) : ER Z (d + 1) k I as Q := Ev.of hk he h
theorem ER.imp {as : List Value} {Q' : xI → Option Value → Prop} (h : ER Z d k I as Q) (hi : ∀ I' v, Q I' v → Q' I' v) : ER Z d k I as Q' := Ev.imp h (fun _ v ⟨I', e1, q⟩ => ⟨I', e1, hi I' v q⟩)
theorem WR.imp {Q' : xI → Option Value → Prop} (h : WR Z d k pc ls st I Q) (hi : ∀ I' v, Q I' v → Q' I' v) : WR Z d k pc ls st I Q' := Wp.imp h (fun _ v ⟨I', e1, q⟩ => ⟨I', e1, hi I' v q⟩)
theorem WR.go (hp : x_P k pc = some e) (hs : x_st x_ec d e ls st (zM Z I) = some (pc', ls', st', zM Z I)) (h : WR Z d k pc' ls' st' I Q) : WR Z d k pc ls st I Q := Wp.go hp hs h
theorem WR.br {p : Prop} [Decidable p] {a b : Nat} (h1 : p → WR Z d k a ls st I Q) (h2 : ¬ p → WR Z d k b ls st I Q) : WR Z d k (if decide p = true then a else b) ls st I Q := Wp.br h1 h2
theorem WR.lt {x y a b : Nat} (hx : x < 2 ^ 31) (hy : y < 2 ^ 31) (h1 : x < y → WR Z d k a ls st I Q) (h2 : y ≤ x → WR Z d k b ls st I Q) : WR Z d k (if decide (nI x < nI y) = true then a else b) ls st I Q :=
  WR.br (fun h => h1 ((nI_ltI hx hy).mp h)) (fun h => h2 (Nat.not_lt.mp fun q => h ((nI_ltI hx hy).mpr q)))
theorem WR.le {x y a b : Nat} (hx : x < 2 ^ 31) (hy : y < 2 ^ 31) (h1 : x ≤ y → WR Z d k a ls st I Q) (h2 : y < x → WR Z d k b ls st I Q) : WR Z d k (if decide (nI x ≤ nI y) = true then a else b) ls st I Q :=
  WR.br (fun h => h1 ((nI_leI hx hy).mp h)) (fun h => h2 (Nat.not_le.mp fun q => h ((nI_leI hx hy).mpr q)))
theorem WR.eq {x y a b : Nat} (hx : x < 2 ^ 31) (hy : y < 2 ^ 31) (h1 : x = y → WR Z d k a ls st I Q) (h2 : x ≠ y → WR Z d k b ls st I Q) : WR Z d k (if decide (nI x = nI y) = true then a else b) ls st I Q :=
  WR.br (fun h => h1 ((nI_eq hx hy).mp h)) (fun h => h2 (fun q => h ((nI_eq hx hy).mpr q)))
theorem WR.ne {x y a b : Nat} (hx : x < 2 ^ 31) (hy : y < 2 ^ 31) (h1 : x ≠ y → WR Z d k a ls st I Q) (h2 : x = y → WR Z d k b ls st I Q) : WR Z d k (if decide (nI x ≠ nI y) = true then a else b) ls st I Q :=
  WR.br (fun h => h1 (fun q => h ((nI_eq hx hy).mpr q))) (fun h => h2 (Classical.byContradiction fun q => h (fun z => q ((nI_eq hx hy).mp z))))
theorem WR.lt0 {x a b : Nat} (hx : x < 2 ^ 31) (h2 : WR Z d k b ls st I Q) : WR Z d k (if decide (nI x < 0) = true then a else b) ls st I Q :=
  WR.br (fun h => absurd h (nI_pos hx)) (fun _ => h2)
theorem WR.ge0 {x a b : Nat} (hx : x < 2 ^ 31) (h2 : WR Z d k a ls st I Q) : WR Z d k (if decide (0 ≤ nI x) = true then a else b) ls st I Q :=
  WR.br (fun _ => h2) (fun h => absurd (nI_pos' hx) h)
theorem WR.addn {x y : Nat} {x' y' : Int32} {xs : List Nat} (hp : x_P k pc = some (.iadd, nx, c, xs)) (hx : x' = nI x) (hy : y' = nI y) (h : WR Z d k nx ls (.int (nI (x + y)) :: st) I Q) : WR Z d k pc ls (.int y' :: .int x' :: st) I Q := by
  subst hx
  subst hy
  rw [← nI_add] at h
  exact WR.go hp rfl h
theorem WR.muln {x y : Nat} {x' y' : Int32} {xs : List Nat} (hp : x_P k pc = some (.imul, nx, c, xs)) (hx : x' = nI x) (hy : y' = nI y) (h : WR Z d k nx ls (.int (nI (x * y)) :: st) I Q) : WR Z d k pc ls (.int y' :: .int x' :: st) I Q := by
  subst hx
  subst hy
  rw [← pk_mul] at h
  exact WR.go hp rfl h
theorem WR.subn {x y : Nat} {x' y' : Int32} {xs : List Nat} (hp : x_P k pc = some (.isub, nx, c, xs)) (hx : x' = nI x) (hy : y' = nI y) (hxy : y ≤ x) (h : WR Z d k nx ls (.int (nI (x - y)) :: st) I Q) : WR Z d k pc ls (.int y' :: .int x' :: st) I Q := by
  subst hx
  subst hy
  rw [← pk_sub hxy] at h
  exact WR.go hp rfl h
theorem WR.incn {x y j i : Nat} {v : Int} (hp : x_P k pc = some (.iinc j v, nx, nI y, [i])) (hl : ls[i]? = some (some (.int (nI x)))) (h : WR Z d k nx (ls.set i (some (.int (nI (x + y))))) st I Q) : WR Z d k pc ls st I Q := by
  refine WR.go hp ?_ h
  simp only [x_st, x_in, hl, nI_add]
theorem WR.gi (hz : zok Z) {ix j : Nat} (hp : x_P k pc = some (.getfield ix, nx, c, [10, 42, j, 0])) (h : WR Z d k nx ls (.int (I 74 j) :: st) I Q) : WR Z d k pc ls (.ref 74 :: st) I Q := Wp.gi hp (hz.at rfl rfl) h
theorem WR.gr (hz : zok Z) {ix j a : Nat} (hp : x_P k pc = some (.getfield ix, nx, c, [10, 42, j, 3])) (hj : x_rj[j]? = some (some a)) (h : WR Z d k nx ls (.ref a :: st) I Q) : WR Z d k pc ls (.ref 74 :: st) I Q := Wp.gr hp (hz.at rfl rfl) (hz.2 j a hj) h
theorem WR.pi (hz : zok Z) {ix j : Nat} {x : Int32} (hp : x_P k pc = some (.putfield ix, nx, c, [10, 42, j, 0])) (h : WR Z d k nx ls st (x_u I 74 j x) Q) : WR Z d k pc ls (.int x :: .ref 74 :: st) I Q := Wp.pi hp (hz.at rfl rfl) h
theorem WR.ai (hz : zok Z) {a n i : Nat} {i' : Int32} {xs : List Nat} (hp : x_P k pc = some (.iaload, nx, c, xs)) (ha : x_K0[a]? = some (true, 0, n)) (h1 : Nat.ble 74 a = true) (h2 : Nat.ble n 65536 = true) (hx' : i' = nI i) (hi : i < n) (h : WR Z d k nx ls (.int (I a i) :: st) I Q) : WR Z d k pc ls (.int i' :: .ref a :: st) I Q := by
  subst hx'
  exact Wp.ai hp (hz.at ha h1) hi (Nat.le_of_ble_eq_true h2) h
theorem WR.az (hz : zok Z) {a n i : Nat} {i' : Int32} {xs : List Nat} (hp : x_P k pc = some (.baload, nx, c, xs)) (ha : x_K0[a]? = some (true, 1, n)) (h1 : Nat.ble 74 a = true) (h2 : Nat.ble n 65536 = true) (hx' : i' = nI i) (hi : i < n) (h : WR Z d k nx ls (.int (I a i) :: st) I Q) : WR Z d k pc ls (.int i' :: .ref a :: st) I Q := by
  subst hx'
  exact Wp.az hp (hz.at ha h1) hi (Nat.le_of_ble_eq_true h2) h
theorem WR.si (hz : zok Z) {a n i : Nat} {i' : Int32} {x : Int32} {xs : List Nat} (hp : x_P k pc = some (.iastore, nx, c, xs)) (ha : x_K0[a]? = some (true, 0, n)) (h1 : Nat.ble 74 a = true) (h2 : Nat.ble n 65536 = true) (hx' : i' = nI i) (hi : i < n) (h : WR Z d k nx ls st (x_u I a i x) Q) : WR Z d k pc ls (.int x :: .int i' :: .ref a :: st) I Q := by
  subst hx'
  exact Wp.si hp (hz.at ha h1) hi (Nat.le_of_ble_eq_true h2) h
theorem WR.sz (hz : zok Z) {a n i : Nat} {i' : Int32} {x : Int32} {xs : List Nat} (hp : x_P k pc = some (.bastore, nx, c, xs)) (ha : x_K0[a]? = some (true, 1, n)) (h1 : Nat.ble 74 a = true) (h2 : Nat.ble n 65536 = true) (hx' : i' = nI i) (hi : i < n) (hx : x = 0 ∨ x = 1) (h : WR Z d k nx ls st (x_u I a i x) Q) : WR Z d k pc ls (.int x :: .int i' :: .ref a :: st) I Q := by
  subst hx'
  exact Wp.sz hp (hz.at ha h1) hi (Nat.le_of_ble_eq_true h2) hx h
theorem WR.rt {v : Option Value} (hp : x_P k pc = some e) (hs : x_st x_ec d e ls st (zM Z I) = none) (hc : x_cl e st (zM Z I) = none) (hr : x_rt (x_rk k) e st = some v) (h : Q I v) : WR Z d k pc ls st I Q := Wp.rt hp hs hc hr ⟨I, rfl, h⟩
theorem WR.rz {v : Int32} {xs : List Nat} (hp : x_P k pc = some (.ireturn, nx, c, xs)) (hr : x_rk k = 2) (hv : v = 0 ∨ v = 1) (h : Q I (some (.int v))) : WR Z d k pc ls [.int v] I Q := Wp.rz hp hr hv ⟨I, rfl, h⟩
theorem WR.S0i {ix kd k' ci : Nat} {w : Value} (hp : x_P k pc = some (.invokestatic ix, nx, c, [kd, k', ci, 0])) (hc : Nat.ble (r.map fun v => v.category).sum 8 = true) (he : ER Z d k' I [] (fun I' v => I' = I1 ∧ v = some w)) (h : WR Z d k nx ls (w :: r) I1 Q) : WR Z d k pc ls (r) I Q := Wp.S0 hp hc he (fun M' v hq => by obtain ⟨I', rfl, rfl, rfl⟩ := hq; exact h)
theorem WR.V0i (hz : zok Z) {ix k' : Nat} {w : Value} (hp : x_P k pc = some (.invokevirtual ix, nx, c, [0, k', 10, 1])) (hc : Nat.ble (r.map fun v => v.category).sum 8 = true) (he : ER Z d k' I [.ref 74] (fun I' v => I' = I1 ∧ v = some w)) (h : WR Z d k nx ls (w :: r) I1 Q) : WR Z d k pc ls (.ref 74 :: r) I Q := Wp.V0 hp (hz.at rfl rfl) hc he (fun M' v hq => by obtain ⟨I', rfl, rfl, rfl⟩ := hq; exact h)
theorem WR.V0v (hz : zok Z) {ix k' : Nat} (hp : x_P k pc = some (.invokevirtual ix, nx, c, [0, k', 10, 1])) (hc : Nat.ble (r.map fun v => v.category).sum 8 = true) (he : ER Z d k' I [.ref 74] (fun I' v => I' = I1 ∧ v = none)) (h : WR Z d k nx ls r I1 Q) : WR Z d k pc ls (.ref 74 :: r) I Q := Wp.V0 hp (hz.at rfl rfl) hc he (fun M' v hq => by obtain ⟨I', rfl, rfl, rfl⟩ := hq; exact h)
theorem WR.S1i {ix kd k' ci : Nat} {a1 : Value} {w : Value} (hp : x_P k pc = some (.invokestatic ix, nx, c, [kd, k', ci, 1])) (hc : Nat.ble (r.map fun v => v.category).sum 8 = true) (he : ER Z d k' I [a1] (fun I' v => I' = I1 ∧ v = some w)) (h : WR Z d k nx ls (w :: r) I1 Q) : WR Z d k pc ls (a1 :: r) I Q := Wp.S1 hp hc he (fun M' v hq => by obtain ⟨I', rfl, rfl, rfl⟩ := hq; exact h)
theorem WR.V1i (hz : zok Z) {ix k' : Nat} {a1 : Value} {w : Value} (hp : x_P k pc = some (.invokevirtual ix, nx, c, [0, k', 10, 2])) (hc : Nat.ble (r.map fun v => v.category).sum 8 = true) (he : ER Z d k' I [.ref 74, a1] (fun I' v => I' = I1 ∧ v = some w)) (h : WR Z d k nx ls (w :: r) I1 Q) : WR Z d k pc ls (a1 :: .ref 74 :: r) I Q := Wp.V1 hp (hz.at rfl rfl) hc he (fun M' v hq => by obtain ⟨I', rfl, rfl, rfl⟩ := hq; exact h)
theorem WR.V1v (hz : zok Z) {ix k' : Nat} {a1 : Value} (hp : x_P k pc = some (.invokevirtual ix, nx, c, [0, k', 10, 2])) (hc : Nat.ble (r.map fun v => v.category).sum 8 = true) (he : ER Z d k' I [.ref 74, a1] (fun I' v => I' = I1 ∧ v = none)) (h : WR Z d k nx ls r I1 Q) : WR Z d k pc ls (a1 :: .ref 74 :: r) I Q := Wp.V1 hp (hz.at rfl rfl) hc he (fun M' v hq => by obtain ⟨I', rfl, rfl, rfl⟩ := hq; exact h)
theorem WR.S2i {ix kd k' ci : Nat} {a1 a2 : Value} {w : Value} (hp : x_P k pc = some (.invokestatic ix, nx, c, [kd, k', ci, 2])) (hc : Nat.ble (r.map fun v => v.category).sum 8 = true) (he : ER Z d k' I [a1, a2] (fun I' v => I' = I1 ∧ v = some w)) (h : WR Z d k nx ls (w :: r) I1 Q) : WR Z d k pc ls (a2 :: a1 :: r) I Q := Wp.S2 hp hc he (fun M' v hq => by obtain ⟨I', rfl, rfl, rfl⟩ := hq; exact h)
theorem WR.V2i (hz : zok Z) {ix k' : Nat} {a1 a2 : Value} {w : Value} (hp : x_P k pc = some (.invokevirtual ix, nx, c, [0, k', 10, 3])) (hc : Nat.ble (r.map fun v => v.category).sum 8 = true) (he : ER Z d k' I [.ref 74, a1, a2] (fun I' v => I' = I1 ∧ v = some w)) (h : WR Z d k nx ls (w :: r) I1 Q) : WR Z d k pc ls (a2 :: a1 :: .ref 74 :: r) I Q := Wp.V2 hp (hz.at rfl rfl) hc he (fun M' v hq => by obtain ⟨I', rfl, rfl, rfl⟩ := hq; exact h)
theorem WR.V2v (hz : zok Z) {ix k' : Nat} {a1 a2 : Value} (hp : x_P k pc = some (.invokevirtual ix, nx, c, [0, k', 10, 3])) (hc : Nat.ble (r.map fun v => v.category).sum 8 = true) (he : ER Z d k' I [.ref 74, a1, a2] (fun I' v => I' = I1 ∧ v = none)) (h : WR Z d k nx ls r I1 Q) : WR Z d k pc ls (a2 :: a1 :: .ref 74 :: r) I Q := Wp.V2 hp (hz.at rfl rfl) hc he (fun M' v hq => by obtain ⟨I', rfl, rfl, rfl⟩ := hq; exact h)
theorem WR.S3i {ix kd k' ci : Nat} {a1 a2 a3 : Value} {w : Value} (hp : x_P k pc = some (.invokestatic ix, nx, c, [kd, k', ci, 3])) (hc : Nat.ble (r.map fun v => v.category).sum 8 = true) (he : ER Z d k' I [a1, a2, a3] (fun I' v => I' = I1 ∧ v = some w)) (h : WR Z d k nx ls (w :: r) I1 Q) : WR Z d k pc ls (a3 :: a2 :: a1 :: r) I Q := Wp.S3 hp hc he (fun M' v hq => by obtain ⟨I', rfl, rfl, rfl⟩ := hq; exact h)
theorem WR.V3i (hz : zok Z) {ix k' : Nat} {a1 a2 a3 : Value} {w : Value} (hp : x_P k pc = some (.invokevirtual ix, nx, c, [0, k', 10, 4])) (hc : Nat.ble (r.map fun v => v.category).sum 8 = true) (he : ER Z d k' I [.ref 74, a1, a2, a3] (fun I' v => I' = I1 ∧ v = some w)) (h : WR Z d k nx ls (w :: r) I1 Q) : WR Z d k pc ls (a3 :: a2 :: a1 :: .ref 74 :: r) I Q := Wp.V3 hp (hz.at rfl rfl) hc he (fun M' v hq => by obtain ⟨I', rfl, rfl, rfl⟩ := hq; exact h)
theorem WR.V3v (hz : zok Z) {ix k' : Nat} {a1 a2 a3 : Value} (hp : x_P k pc = some (.invokevirtual ix, nx, c, [0, k', 10, 4])) (hc : Nat.ble (r.map fun v => v.category).sum 8 = true) (he : ER Z d k' I [.ref 74, a1, a2, a3] (fun I' v => I' = I1 ∧ v = none)) (h : WR Z d k nx ls r I1 Q) : WR Z d k pc ls (a3 :: a2 :: a1 :: .ref 74 :: r) I Q := Wp.V3 hp (hz.at rfl rfl) hc he (fun M' v hq => by obtain ⟨I', rfl, rfl, rfl⟩ := hq; exact h)
theorem WR.V4i (hz : zok Z) {ix k' : Nat} {a1 a2 a3 a4 : Value} {w : Value} (hp : x_P k pc = some (.invokevirtual ix, nx, c, [0, k', 10, 5])) (hc : Nat.ble (r.map fun v => v.category).sum 8 = true) (he : ER Z d k' I [.ref 74, a1, a2, a3, a4] (fun I' v => I' = I1 ∧ v = some w)) (h : WR Z d k nx ls (w :: r) I1 Q) : WR Z d k pc ls (a4 :: a3 :: a2 :: a1 :: .ref 74 :: r) I Q := Wp.V4 hp (hz.at rfl rfl) hc he (fun M' v hq => by obtain ⟨I', rfl, rfl, rfl⟩ := hq; exact h)
theorem WR.V4v (hz : zok Z) {ix k' : Nat} {a1 a2 a3 a4 : Value} (hp : x_P k pc = some (.invokevirtual ix, nx, c, [0, k', 10, 5])) (hc : Nat.ble (r.map fun v => v.category).sum 8 = true) (he : ER Z d k' I [.ref 74, a1, a2, a3, a4] (fun I' v => I' = I1 ∧ v = none)) (h : WR Z d k nx ls r I1 Q) : WR Z d k pc ls (a4 :: a3 :: a2 :: a1 :: .ref 74 :: r) I Q := Wp.V4 hp (hz.at rfl rfl) hc he (fun M' v hq => by obtain ⟨I', rfl, rfl, rfl⟩ := hq; exact h)
theorem WR.V5i (hz : zok Z) {ix k' : Nat} {a1 a2 a3 a4 a5 : Value} {w : Value} (hp : x_P k pc = some (.invokevirtual ix, nx, c, [0, k', 10, 6])) (hc : Nat.ble (r.map fun v => v.category).sum 8 = true) (he : ER Z d k' I [.ref 74, a1, a2, a3, a4, a5] (fun I' v => I' = I1 ∧ v = some w)) (h : WR Z d k nx ls (w :: r) I1 Q) : WR Z d k pc ls (a5 :: a4 :: a3 :: a2 :: a1 :: .ref 74 :: r) I Q := Wp.V5 hp (hz.at rfl rfl) hc he (fun M' v hq => by obtain ⟨I', rfl, rfl, rfl⟩ := hq; exact h)
theorem WR.V5v (hz : zok Z) {ix k' : Nat} {a1 a2 a3 a4 a5 : Value} (hp : x_P k pc = some (.invokevirtual ix, nx, c, [0, k', 10, 6])) (hc : Nat.ble (r.map fun v => v.category).sum 8 = true) (he : ER Z d k' I [.ref 74, a1, a2, a3, a4, a5] (fun I' v => I' = I1 ∧ v = none)) (h : WR Z d k nx ls r I1 Q) : WR Z d k pc ls (a5 :: a4 :: a3 :: a2 :: a1 :: .ref 74 :: r) I Q := Wp.V5 hp (hz.at rfl rfl) hc he (fun M' v hq => by obtain ⟨I', rfl, rfl, rfl⟩ := hq; exact h)
theorem WR.V6i (hz : zok Z) {ix k' : Nat} {a1 a2 a3 a4 a5 a6 : Value} {w : Value} (hp : x_P k pc = some (.invokevirtual ix, nx, c, [0, k', 10, 7])) (hc : Nat.ble (r.map fun v => v.category).sum 8 = true) (he : ER Z d k' I [.ref 74, a1, a2, a3, a4, a5, a6] (fun I' v => I' = I1 ∧ v = some w)) (h : WR Z d k nx ls (w :: r) I1 Q) : WR Z d k pc ls (a6 :: a5 :: a4 :: a3 :: a2 :: a1 :: .ref 74 :: r) I Q := Wp.V6 hp (hz.at rfl rfl) hc he (fun M' v hq => by obtain ⟨I', rfl, rfl, rfl⟩ := hq; exact h)
theorem WR.V6v (hz : zok Z) {ix k' : Nat} {a1 a2 a3 a4 a5 a6 : Value} (hp : x_P k pc = some (.invokevirtual ix, nx, c, [0, k', 10, 7])) (hc : Nat.ble (r.map fun v => v.category).sum 8 = true) (he : ER Z d k' I [.ref 74, a1, a2, a3, a4, a5, a6] (fun I' v => I' = I1 ∧ v = none)) (h : WR Z d k nx ls r I1 Q) : WR Z d k pc ls (a6 :: a5 :: a4 :: a3 :: a2 :: a1 :: .ref 74 :: r) I Q := Wp.V6 hp (hz.at rfl rfl) hc he (fun M' v hq => by obtain ⟨I', rfl, rfl, rfl⟩ := hq; exact h)
theorem WR.V7i (hz : zok Z) {ix k' : Nat} {a1 a2 a3 a4 a5 a6 a7 : Value} {w : Value} (hp : x_P k pc = some (.invokevirtual ix, nx, c, [0, k', 10, 8])) (hc : Nat.ble (r.map fun v => v.category).sum 8 = true) (he : ER Z d k' I [.ref 74, a1, a2, a3, a4, a5, a6, a7] (fun I' v => I' = I1 ∧ v = some w)) (h : WR Z d k nx ls (w :: r) I1 Q) : WR Z d k pc ls (a7 :: a6 :: a5 :: a4 :: a3 :: a2 :: a1 :: .ref 74 :: r) I Q := Wp.V7 hp (hz.at rfl rfl) hc he (fun M' v hq => by obtain ⟨I', rfl, rfl, rfl⟩ := hq; exact h)
theorem WR.V7v (hz : zok Z) {ix k' : Nat} {a1 a2 a3 a4 a5 a6 a7 : Value} (hp : x_P k pc = some (.invokevirtual ix, nx, c, [0, k', 10, 8])) (hc : Nat.ble (r.map fun v => v.category).sum 8 = true) (he : ER Z d k' I [.ref 74, a1, a2, a3, a4, a5, a6, a7] (fun I' v => I' = I1 ∧ v = none)) (h : WR Z d k nx ls r I1 Q) : WR Z d k pc ls (a7 :: a6 :: a5 :: a4 :: a3 :: a2 :: a1 :: .ref 74 :: r) I Q := Wp.V7 hp (hz.at rfl rfl) hc he (fun M' v hq => by obtain ⟨I', rfl, rfl, rfl⟩ := hq; exact h)
end XWR
