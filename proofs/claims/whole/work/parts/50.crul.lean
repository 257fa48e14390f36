/-! rules for cells of the class, as those of the reference: Z: kinds, longs, references; I: ints -/
section CRUL
variable {Z : xZ} {d k pc nx : Nat} {ls : xL} {st r : List Value} {I I1 : xI} {Q : xI → Option Value → Prop} {c : Int32}
theorem WR.gI {ix ci n j a : Nat} (hp : x_P k pc = some (.getfield ix, nx, c, [ci, n, j, 0])) (hk : Z.1[a]? = some (false, ci, n)) (h : WR Z d k nx ls (.int (I a j) :: st) I Q) : WR Z d k pc ls (.ref a :: st) I Q := Wp.gi hp hk h
theorem WR.gIk {ix ci n j a : Nat} {v : Int32} (hp : x_P k pc = some (.getfield ix, nx, c, [ci, n, j, 0])) (hk : Z.1[a]? = some (false, ci, n)) (hv : I a j = v) (h : WR Z d k nx ls (.int v :: st) I Q) : WR Z d k pc ls (.ref a :: st) I Q := WR.gI hp hk (hv ▸ h)
theorem WR.gZ {ix ci n j a : Nat} (hp : x_P k pc = some (.getfield ix, nx, c, [ci, n, j, 1])) (hk : Z.1[a]? = some (false, ci, n)) (h : WR Z d k nx ls (.int (I a j) :: st) I Q) : WR Z d k pc ls (.ref a :: st) I Q := Wp.gz hp hk h
theorem WR.gL {ix ci n j a : Nat} (hp : x_P k pc = some (.getfield ix, nx, c, [ci, n, j, 2])) (hk : Z.1[a]? = some (false, ci, n)) (h : WR Z d k nx ls (.long (Z.2.1 a j) :: st) I Q) : WR Z d k pc ls (.ref a :: st) I Q := Wp.gl hp hk h
theorem WR.gR {ix ci n j a b : Nat} (hp : x_P k pc = some (.getfield ix, nx, c, [ci, n, j, 3])) (hk : Z.1[a]? = some (false, ci, n)) (hr : Z.2.2 a j = some b) (h : WR Z d k nx ls (.ref b :: st) I Q) : WR Z d k pc ls (.ref a :: st) I Q := Wp.gr hp hk hr h
theorem WR.gN {ix ci n j a : Nat} (hp : x_P k pc = some (.getfield ix, nx, c, [ci, n, j, 3])) (hk : Z.1[a]? = some (false, ci, n)) (hr : Z.2.2 a j = none) (h : WR Z d k nx ls (.null :: st) I Q) : WR Z d k pc ls (.ref a :: st) I Q := Wp.gn hp hk hr h
theorem WR.pI {ix ci n j a : Nat} {x : Int32} (hp : x_P k pc = some (.putfield ix, nx, c, [ci, n, j, 0])) (hk : Z.1[a]? = some (false, ci, n)) (h : WR Z d k nx ls st (x_u I a j x) Q) : WR Z d k pc ls (.int x :: .ref a :: st) I Q := Wp.pi hp hk h
theorem WR.pZ {ix ci n j a : Nat} {x : Int32} (hp : x_P k pc = some (.putfield ix, nx, c, [ci, n, j, 1])) (hk : Z.1[a]? = some (false, ci, n)) (hx : x = 0 ∨ x = 1) (h : WR Z d k nx ls st (x_u I a j x) Q) : WR Z d k pc ls (.int x :: .ref a :: st) I Q := Wp.pz hp hk hx h
theorem WR.aI {a n i : Nat} {i' : Int32} {xs : List Nat} (hp : x_P k pc = some (.iaload, nx, c, xs)) (hk : Z.1[a]? = some (true, 0, n)) (h2 : Nat.ble n 65536 = true) (hx' : i' = nI i) (hi : i < n) (h : WR Z d k nx ls (.int (I a i) :: st) I Q) : WR Z d k pc ls (.int i' :: .ref a :: st) I Q := by
  subst hx'
  exact Wp.ai hp hk hi (Nat.le_of_ble_eq_true h2) h
theorem WR.aIk {a n i : Nat} {i' v : Int32} {xs : List Nat} (hp : x_P k pc = some (.iaload, nx, c, xs)) (hk : Z.1[a]? = some (true, 0, n)) (h2 : Nat.ble n 65536 = true) (hx' : i' = nI i) (hi : i < n) (hv : I a i = v) (h : WR Z d k nx ls (.int v :: st) I Q) : WR Z d k pc ls (.int i' :: .ref a :: st) I Q := WR.aI hp hk h2 hx' hi (hv ▸ h)
theorem WR.sI {a n i : Nat} {i' x : Int32} {xs : List Nat} (hp : x_P k pc = some (.iastore, nx, c, xs)) (hk : Z.1[a]? = some (true, 0, n)) (h2 : Nat.ble n 65536 = true) (hx' : i' = nI i) (hi : i < n) (h : WR Z d k nx ls st (x_u I a i x) Q) : WR Z d k pc ls (.int x :: .int i' :: .ref a :: st) I Q := by
  subst hx'
  exact Wp.si hp hk hi (Nat.le_of_ble_eq_true h2) h
theorem WR.aQ {a n i t b : Nat} {i' : Int32} {xs : List Nat} (hp : x_P k pc = some (.aaload, nx, c, xs)) (hk : Z.1[a]? = some (true, t, n)) (ht : 2 ≤ t ∧ t < 5) (h2 : Nat.ble n 65536 = true) (hx' : i' = nI i) (hi : i < n) (hr : Z.2.2 a i = some b) (h : WR Z d k nx ls (.ref b :: st) I Q) : WR Z d k pc ls (.int i' :: .ref a :: st) I Q := by
  subst hx'
  exact Wp.aq hp hk ht hi (Nat.le_of_ble_eq_true h2) hr h
theorem WR.C0i  {ix k' ci b m : Nat} {w : Value} (hp : x_P k pc = some (.invokevirtual ix, nx, c, [0, k', ci, 1])) (hk : Z.1[b]? = some (false, ci, m)) (hc : Nat.ble (r.map fun v => v.category).sum 8 = true) (he : ER Z d k' I [.ref b] (fun I' v => I' = I1 ∧ v = some w)) (h : WR Z d k nx ls (w :: r) I1 Q) : WR Z d k pc ls (.ref b :: r) I Q := Wp.V0 hp hk hc he (fun M' v hq => by obtain ⟨I', rfl, rfl, rfl⟩ := hq; exact h)
theorem WR.C0v  {ix k' ci b m : Nat} (hp : x_P k pc = some (.invokevirtual ix, nx, c, [0, k', ci, 1])) (hk : Z.1[b]? = some (false, ci, m)) (hc : Nat.ble (r.map fun v => v.category).sum 8 = true) (he : ER Z d k' I [.ref b] (fun I' v => I' = I1 ∧ v = none)) (h : WR Z d k nx ls r I1 Q) : WR Z d k pc ls (.ref b :: r) I Q := Wp.V0 hp hk hc he (fun M' v hq => by obtain ⟨I', rfl, rfl, rfl⟩ := hq; exact h)
theorem WR.C1i  {ix k' ci b m : Nat} {a1 : Value} {w : Value} (hp : x_P k pc = some (.invokevirtual ix, nx, c, [0, k', ci, 2])) (hk : Z.1[b]? = some (false, ci, m)) (hc : Nat.ble (r.map fun v => v.category).sum 8 = true) (he : ER Z d k' I [.ref b, a1] (fun I' v => I' = I1 ∧ v = some w)) (h : WR Z d k nx ls (w :: r) I1 Q) : WR Z d k pc ls (a1 :: .ref b :: r) I Q := Wp.V1 hp hk hc he (fun M' v hq => by obtain ⟨I', rfl, rfl, rfl⟩ := hq; exact h)
theorem WR.C1v  {ix k' ci b m : Nat} {a1 : Value} (hp : x_P k pc = some (.invokevirtual ix, nx, c, [0, k', ci, 2])) (hk : Z.1[b]? = some (false, ci, m)) (hc : Nat.ble (r.map fun v => v.category).sum 8 = true) (he : ER Z d k' I [.ref b, a1] (fun I' v => I' = I1 ∧ v = none)) (h : WR Z d k nx ls r I1 Q) : WR Z d k pc ls (a1 :: .ref b :: r) I Q := Wp.V1 hp hk hc he (fun M' v hq => by obtain ⟨I', rfl, rfl, rfl⟩ := hq; exact h)
theorem WR.C2i  {ix k' ci b m : Nat} {a1 a2 : Value} {w : Value} (hp : x_P k pc = some (.invokevirtual ix, nx, c, [0, k', ci, 3])) (hk : Z.1[b]? = some (false, ci, m)) (hc : Nat.ble (r.map fun v => v.category).sum 8 = true) (he : ER Z d k' I [.ref b, a1, a2] (fun I' v => I' = I1 ∧ v = some w)) (h : WR Z d k nx ls (w :: r) I1 Q) : WR Z d k pc ls (a2 :: a1 :: .ref b :: r) I Q := Wp.V2 hp hk hc he (fun M' v hq => by obtain ⟨I', rfl, rfl, rfl⟩ := hq; exact h)
theorem WR.C2v  {ix k' ci b m : Nat} {a1 a2 : Value} (hp : x_P k pc = some (.invokevirtual ix, nx, c, [0, k', ci, 3])) (hk : Z.1[b]? = some (false, ci, m)) (hc : Nat.ble (r.map fun v => v.category).sum 8 = true) (he : ER Z d k' I [.ref b, a1, a2] (fun I' v => I' = I1 ∧ v = none)) (h : WR Z d k nx ls r I1 Q) : WR Z d k pc ls (a2 :: a1 :: .ref b :: r) I Q := Wp.V2 hp hk hc he (fun M' v hq => by obtain ⟨I', rfl, rfl, rfl⟩ := hq; exact h)
theorem WR.C3i  {ix k' ci b m : Nat} {a1 a2 a3 : Value} {w : Value} (hp : x_P k pc = some (.invokevirtual ix, nx, c, [0, k', ci, 4])) (hk : Z.1[b]? = some (false, ci, m)) (hc : Nat.ble (r.map fun v => v.category).sum 8 = true) (he : ER Z d k' I [.ref b, a1, a2, a3] (fun I' v => I' = I1 ∧ v = some w)) (h : WR Z d k nx ls (w :: r) I1 Q) : WR Z d k pc ls (a3 :: a2 :: a1 :: .ref b :: r) I Q := Wp.V3 hp hk hc he (fun M' v hq => by obtain ⟨I', rfl, rfl, rfl⟩ := hq; exact h)
theorem WR.C3v  {ix k' ci b m : Nat} {a1 a2 a3 : Value} (hp : x_P k pc = some (.invokevirtual ix, nx, c, [0, k', ci, 4])) (hk : Z.1[b]? = some (false, ci, m)) (hc : Nat.ble (r.map fun v => v.category).sum 8 = true) (he : ER Z d k' I [.ref b, a1, a2, a3] (fun I' v => I' = I1 ∧ v = none)) (h : WR Z d k nx ls r I1 Q) : WR Z d k pc ls (a3 :: a2 :: a1 :: .ref b :: r) I Q := Wp.V3 hp hk hc he (fun M' v hq => by obtain ⟨I', rfl, rfl, rfl⟩ := hq; exact h)
theorem WR.C4i  {ix k' ci b m : Nat} {a1 a2 a3 a4 : Value} {w : Value} (hp : x_P k pc = some (.invokevirtual ix, nx, c, [0, k', ci, 5])) (hk : Z.1[b]? = some (false, ci, m)) (hc : Nat.ble (r.map fun v => v.category).sum 8 = true) (he : ER Z d k' I [.ref b, a1, a2, a3, a4] (fun I' v => I' = I1 ∧ v = some w)) (h : WR Z d k nx ls (w :: r) I1 Q) : WR Z d k pc ls (a4 :: a3 :: a2 :: a1 :: .ref b :: r) I Q := Wp.V4 hp hk hc he (fun M' v hq => by obtain ⟨I', rfl, rfl, rfl⟩ := hq; exact h)
theorem WR.C4v  {ix k' ci b m : Nat} {a1 a2 a3 a4 : Value} (hp : x_P k pc = some (.invokevirtual ix, nx, c, [0, k', ci, 5])) (hk : Z.1[b]? = some (false, ci, m)) (hc : Nat.ble (r.map fun v => v.category).sum 8 = true) (he : ER Z d k' I [.ref b, a1, a2, a3, a4] (fun I' v => I' = I1 ∧ v = none)) (h : WR Z d k nx ls r I1 Q) : WR Z d k pc ls (a4 :: a3 :: a2 :: a1 :: .ref b :: r) I Q := Wp.V4 hp hk hc he (fun M' v hq => by obtain ⟨I', rfl, rfl, rfl⟩ := hq; exact h)
theorem WR.C5i  {ix k' ci b m : Nat} {a1 a2 a3 a4 a5 : Value} {w : Value} (hp : x_P k pc = some (.invokevirtual ix, nx, c, [0, k', ci, 6])) (hk : Z.1[b]? = some (false, ci, m)) (hc : Nat.ble (r.map fun v => v.category).sum 8 = true) (he : ER Z d k' I [.ref b, a1, a2, a3, a4, a5] (fun I' v => I' = I1 ∧ v = some w)) (h : WR Z d k nx ls (w :: r) I1 Q) : WR Z d k pc ls (a5 :: a4 :: a3 :: a2 :: a1 :: .ref b :: r) I Q := Wp.V5 hp hk hc he (fun M' v hq => by obtain ⟨I', rfl, rfl, rfl⟩ := hq; exact h)
theorem WR.C5v  {ix k' ci b m : Nat} {a1 a2 a3 a4 a5 : Value} (hp : x_P k pc = some (.invokevirtual ix, nx, c, [0, k', ci, 6])) (hk : Z.1[b]? = some (false, ci, m)) (hc : Nat.ble (r.map fun v => v.category).sum 8 = true) (he : ER Z d k' I [.ref b, a1, a2, a3, a4, a5] (fun I' v => I' = I1 ∧ v = none)) (h : WR Z d k nx ls r I1 Q) : WR Z d k pc ls (a5 :: a4 :: a3 :: a2 :: a1 :: .ref b :: r) I Q := Wp.V5 hp hk hc he (fun M' v hq => by obtain ⟨I', rfl, rfl, rfl⟩ := hq; exact h)
theorem WR.C6i  {ix k' ci b m : Nat} {a1 a2 a3 a4 a5 a6 : Value} {w : Value} (hp : x_P k pc = some (.invokevirtual ix, nx, c, [0, k', ci, 7])) (hk : Z.1[b]? = some (false, ci, m)) (hc : Nat.ble (r.map fun v => v.category).sum 8 = true) (he : ER Z d k' I [.ref b, a1, a2, a3, a4, a5, a6] (fun I' v => I' = I1 ∧ v = some w)) (h : WR Z d k nx ls (w :: r) I1 Q) : WR Z d k pc ls (a6 :: a5 :: a4 :: a3 :: a2 :: a1 :: .ref b :: r) I Q := Wp.V6 hp hk hc he (fun M' v hq => by obtain ⟨I', rfl, rfl, rfl⟩ := hq; exact h)
theorem WR.C6v  {ix k' ci b m : Nat} {a1 a2 a3 a4 a5 a6 : Value} (hp : x_P k pc = some (.invokevirtual ix, nx, c, [0, k', ci, 7])) (hk : Z.1[b]? = some (false, ci, m)) (hc : Nat.ble (r.map fun v => v.category).sum 8 = true) (he : ER Z d k' I [.ref b, a1, a2, a3, a4, a5, a6] (fun I' v => I' = I1 ∧ v = none)) (h : WR Z d k nx ls r I1 Q) : WR Z d k pc ls (a6 :: a5 :: a4 :: a3 :: a2 :: a1 :: .ref b :: r) I Q := Wp.V6 hp hk hc he (fun M' v hq => by obtain ⟨I', rfl, rfl, rfl⟩ := hq; exact h)
theorem WR.C7i  {ix k' ci b m : Nat} {a1 a2 a3 a4 a5 a6 a7 : Value} {w : Value} (hp : x_P k pc = some (.invokevirtual ix, nx, c, [0, k', ci, 8])) (hk : Z.1[b]? = some (false, ci, m)) (hc : Nat.ble (r.map fun v => v.category).sum 8 = true) (he : ER Z d k' I [.ref b, a1, a2, a3, a4, a5, a6, a7] (fun I' v => I' = I1 ∧ v = some w)) (h : WR Z d k nx ls (w :: r) I1 Q) : WR Z d k pc ls (a7 :: a6 :: a5 :: a4 :: a3 :: a2 :: a1 :: .ref b :: r) I Q := Wp.V7 hp hk hc he (fun M' v hq => by obtain ⟨I', rfl, rfl, rfl⟩ := hq; exact h)
theorem WR.C7v  {ix k' ci b m : Nat} {a1 a2 a3 a4 a5 a6 a7 : Value} (hp : x_P k pc = some (.invokevirtual ix, nx, c, [0, k', ci, 8])) (hk : Z.1[b]? = some (false, ci, m)) (hc : Nat.ble (r.map fun v => v.category).sum 8 = true) (he : ER Z d k' I [.ref b, a1, a2, a3, a4, a5, a6, a7] (fun I' v => I' = I1 ∧ v = none)) (h : WR Z d k nx ls r I1 Q) : WR Z d k pc ls (a7 :: a6 :: a5 :: a4 :: a3 :: a2 :: a1 :: .ref b :: r) I Q := Wp.V7 hp hk hc he (fun M' v hq => by obtain ⟨I', rfl, rfl, rfl⟩ := hq; exact h)
end CRUL
/-! slots; votes; commands -/
def c_sl (s : Nat) : Bool := decide (1 ≤ s) && decide (s ≤ 24)
theorem c_sl_t {s : Nat} : c_sl s = true ↔ 1 ≤ s ∧ s ≤ 24 := by simp [c_sl]
theorem c_sl_f {s : Nat} : c_sl s = false ↔ ¬ (1 ≤ s ∧ s ≤ 24) := by rw [← c_sl_t]; simp
def vtK (Z : xZ) (v : Nat) : Prop := Z.1[v]? = some (false, 8, 2) ∧ Z.2.2 v 0 = some (v + 1) ∧ Z.2.2 v 1 = some (v + 2) ∧ Z.1[v + 1]? = some (true, 0, 25) ∧ Z.1[v + 2]? = some (true, 0, 25)
def cmK (Z : xZ) (k : Nat) : Prop := Z.1[k]? = some (false, 2, 1) ∧ Z.2.2 k 0 = some (k + 1) ∧ Z.1[k + 1]? = some (true, 0, 25)
def c_vh (I : xI) (v s : Nat) : Bool := c_sl s && decide (I (v + 1) s ≠ 0)
def c_vb (I : xI) (v s : Nat) : Int32 := if c_sl s = true then I (v + 1) s else 0
def c_vc (I : xI) (v s : Nat) : Int32 := if c_vh I v s = true then I (v + 2) s else -1
def c_vp (I : xI) (v s : Nat) (b c : Int32) : xI := if c_sl s = true then x_u (x_u I (v + 1) s b) (v + 2) s c else I
def c_ch (I : xI) (k s : Nat) : Bool := c_sl s && decide (I (k + 1) s ≠ -1)
def c_ca (I : xI) (k s : Nat) : Int32 := if c_sl s = true then I (k + 1) s else -1
def c_cp (I : xI) (k s : Nat) (c : Int32) : xI := if c_sl s = true then x_u I (k + 1) s c else I
section VOTE
variable {Z : xZ}
set_option maxHeartbeats 1000000 in
theorem k_slotx (d : Nat) (I : xI) (x : Int32) : ER Z (d + 1) 78 I [.int x] (fun I' v => I' = I ∧ v = some (.int (bI (decide (nI 1 ≤ x) && decide (x ≤ nI 24))))) := by
  refine ER.of (ls := [some (.int x)]) rfl rfl ?_
  repeat' (first
      | (with_reducible refine WR.lt (by omega) (by omega) (fun _ => ?_) (fun _ => ?_) <;> try (exfalso; omega))
      | (with_reducible refine WR.le (by omega) (by omega) (fun _ => ?_) (fun _ => ?_) <;> try (exfalso; omega))
      | (with_reducible refine WR.eq (by omega) (by omega) (fun _ => ?_) (fun _ => ?_) <;> try (exfalso; omega))
      | (with_reducible refine WR.ne (by omega) (by omega) (fun _ => ?_) (fun _ => ?_) <;> try (exfalso; omega))
      | with_reducible refine WR.lt0 (by omega) ?_
      | with_reducible refine WR.ge0 (by omega) ?_
      | (with_reducible refine WR.bz (fun _ => ?_) (fun _ => ?_) <;> try contradiction)
      | (with_reducible refine WR.bn (fun _ => ?_) (fun _ => ?_) <;> try contradiction)
      | (with_reducible refine WR.br (fun _ => ?_) (fun _ => ?_) <;> try contradiction)
      | refine WR.gIk rfl (by assumption) (by with_reducible assumption) ?_
      | refine WR.gI rfl (by assumption) ?_
      | refine WR.gR rfl (by assumption) (by assumption) ?_
      | refine WR.gN rfl (by assumption) (by assumption) ?_
      | refine WR.gL rfl (by assumption) ?_
      | refine WR.addn rfl (by with_reducible rfl) (by with_reducible rfl) ?_
      | refine WR.muln rfl (by with_reducible rfl) (by with_reducible rfl) ?_
      | refine WR.subn rfl (by with_reducible rfl) (by with_reducible rfl) (by omega) ?_
      | (refine WR.incn rfl rfl ?_; dsimp only [List.set])
      | (refine WR.decn rfl rfl ?_; dsimp only [List.set])
      | (refine WR.go rfl rfl ?_; try dsimp only [List.set])
      | refine WR.aIk rfl (by assumption) rfl (by first | with_reducible rfl | with_reducible assumption) (by omega) (by with_reducible assumption) ?_
      | refine WR.aI rfl (by assumption) rfl (by first | with_reducible rfl | with_reducible assumption) (by omega) ?_
      | refine WR.sI rfl (by assumption) rfl (by first | with_reducible rfl | with_reducible assumption) (by omega) ?_
      | refine WR.pI rfl (by assumption) ?_
      | refine WR.rt rfl rfl rfl rfl ?_
      | refine WR.rz rfl rfl (by decide) ?_)
  · rename_i h; exact ⟨rfl, by simp [i_lt_ge h, bI]; rfl⟩
  · rename_i h1 h; exact ⟨rfl, by simp [i_lt_ge h, bI]; rfl⟩
  · rename_i h1 h2; exact ⟨rfl, by simp [i_nlt h1, i_nlt h2, bI]; rfl⟩
theorem k_slot (d : Nat) (I : xI) {s : Nat} (hs : s < 2 ^ 31) : ER Z (d + 1) 78 I [.int (nI s)] (fun I' v => I' = I ∧ v = some (.int (bI (c_sl s)))) := by
  refine (k_slotx d I (nI s)).imp (fun I' v h => ⟨h.1, h.2.trans ?_⟩)
  have h1 : decide (nI 1 ≤ nI s) = decide (1 ≤ s) := by rw [decide_eq_decide]; exact nI_leI (by decide) hs
  have h2 : decide (nI s ≤ nI 24) = decide (s ≤ 24) := by rw [decide_eq_decide]; exact nI_leI hs (by decide)
  rw [h1, h2]; rfl
set_option maxHeartbeats 1000000 in
theorem k_vhas (d : Nat) (I : xI) {v s : Nat} (hs : s < 2 ^ 31) (hv : vtK Z v) : ER Z (d + 2) 68 I [.ref v, .int (nI s)] (fun I' w => I' = I ∧ w = some (.int (bI (c_vh I v s)))) := by
  obtain ⟨v1, v2, v3, v4, v5⟩ := hv
  refine ER.of (ls := [some (.ref v), some (.int (nI s))]) rfl rfl ?_
  iterate 1 (first
      | (with_reducible refine WR.lt (by omega) (by omega) (fun _ => ?_) (fun _ => ?_) <;> try (exfalso; omega))
      | (with_reducible refine WR.le (by omega) (by omega) (fun _ => ?_) (fun _ => ?_) <;> try (exfalso; omega))
      | (with_reducible refine WR.eq (by omega) (by omega) (fun _ => ?_) (fun _ => ?_) <;> try (exfalso; omega))
      | (with_reducible refine WR.ne (by omega) (by omega) (fun _ => ?_) (fun _ => ?_) <;> try (exfalso; omega))
      | with_reducible refine WR.lt0 (by omega) ?_
      | with_reducible refine WR.ge0 (by omega) ?_
      | (with_reducible refine WR.bz (fun _ => ?_) (fun _ => ?_) <;> try contradiction)
      | (with_reducible refine WR.bn (fun _ => ?_) (fun _ => ?_) <;> try contradiction)
      | (with_reducible refine WR.br (fun _ => ?_) (fun _ => ?_) <;> try contradiction)
      | refine WR.gIk rfl (by assumption) (by with_reducible assumption) ?_
      | refine WR.gI rfl (by assumption) ?_
      | refine WR.gR rfl (by assumption) (by assumption) ?_
      | refine WR.gN rfl (by assumption) (by assumption) ?_
      | refine WR.gL rfl (by assumption) ?_
      | refine WR.addn rfl (by with_reducible rfl) (by with_reducible rfl) ?_
      | refine WR.muln rfl (by with_reducible rfl) (by with_reducible rfl) ?_
      | refine WR.subn rfl (by with_reducible rfl) (by with_reducible rfl) (by omega) ?_
      | (refine WR.incn rfl rfl ?_; dsimp only [List.set])
      | (refine WR.decn rfl rfl ?_; dsimp only [List.set])
      | (refine WR.go rfl rfl ?_; try dsimp only [List.set])
      | refine WR.aIk rfl (by assumption) rfl (by first | with_reducible rfl | with_reducible assumption) (by omega) (by with_reducible assumption) ?_
      | refine WR.aI rfl (by assumption) rfl (by first | with_reducible rfl | with_reducible assumption) (by omega) ?_
      | refine WR.sI rfl (by assumption) rfl (by first | with_reducible rfl | with_reducible assumption) (by omega) ?_
      | refine WR.pI rfl (by assumption) ?_
      | refine WR.rt rfl rfl rfl rfl ?_
      | refine WR.rz rfl rfl (by decide) ?_)
  refine WR.S1i rfl rfl (k_slot d I hs) ?_
  rw [c_vh]
  iterate 2 (first
      | (with_reducible refine WR.lt (by omega) (by omega) (fun _ => ?_) (fun _ => ?_) <;> try (exfalso; omega))
      | (with_reducible refine WR.le (by omega) (by omega) (fun _ => ?_) (fun _ => ?_) <;> try (exfalso; omega))
      | (with_reducible refine WR.eq (by omega) (by omega) (fun _ => ?_) (fun _ => ?_) <;> try (exfalso; omega))
      | (with_reducible refine WR.ne (by omega) (by omega) (fun _ => ?_) (fun _ => ?_) <;> try (exfalso; omega))
      | with_reducible refine WR.lt0 (by omega) ?_
      | with_reducible refine WR.ge0 (by omega) ?_
      | (with_reducible refine WR.bz (fun _ => ?_) (fun _ => ?_) <;> try contradiction)
      | (with_reducible refine WR.bn (fun _ => ?_) (fun _ => ?_) <;> try contradiction)
      | (with_reducible refine WR.br (fun _ => ?_) (fun _ => ?_) <;> try contradiction)
      | refine WR.gIk rfl (by assumption) (by with_reducible assumption) ?_
      | refine WR.gI rfl (by assumption) ?_
      | refine WR.gR rfl (by assumption) (by assumption) ?_
      | refine WR.gN rfl (by assumption) (by assumption) ?_
      | refine WR.gL rfl (by assumption) ?_
      | refine WR.addn rfl (by with_reducible rfl) (by with_reducible rfl) ?_
      | refine WR.muln rfl (by with_reducible rfl) (by with_reducible rfl) ?_
      | refine WR.subn rfl (by with_reducible rfl) (by with_reducible rfl) (by omega) ?_
      | (refine WR.incn rfl rfl ?_; dsimp only [List.set])
      | (refine WR.decn rfl rfl ?_; dsimp only [List.set])
      | (refine WR.go rfl rfl ?_; try dsimp only [List.set])
      | refine WR.aIk rfl (by assumption) rfl (by first | with_reducible rfl | with_reducible assumption) (by omega) (by with_reducible assumption) ?_
      | refine WR.aI rfl (by assumption) rfl (by first | with_reducible rfl | with_reducible assumption) (by omega) ?_
      | refine WR.sI rfl (by assumption) rfl (by first | with_reducible rfl | with_reducible assumption) (by omega) ?_
      | refine WR.pI rfl (by assumption) ?_
      | refine WR.rt rfl rfl rfl rfl ?_
      | refine WR.rz rfl rfl (by decide) ?_)
  · rename_i h
    rw [h]
    repeat' (first
      | (with_reducible refine WR.lt (by omega) (by omega) (fun _ => ?_) (fun _ => ?_) <;> try (exfalso; omega))
      | (with_reducible refine WR.le (by omega) (by omega) (fun _ => ?_) (fun _ => ?_) <;> try (exfalso; omega))
      | (with_reducible refine WR.eq (by omega) (by omega) (fun _ => ?_) (fun _ => ?_) <;> try (exfalso; omega))
      | (with_reducible refine WR.ne (by omega) (by omega) (fun _ => ?_) (fun _ => ?_) <;> try (exfalso; omega))
      | with_reducible refine WR.lt0 (by omega) ?_
      | with_reducible refine WR.ge0 (by omega) ?_
      | (with_reducible refine WR.bz (fun _ => ?_) (fun _ => ?_) <;> try contradiction)
      | (with_reducible refine WR.bn (fun _ => ?_) (fun _ => ?_) <;> try contradiction)
      | (with_reducible refine WR.br (fun _ => ?_) (fun _ => ?_) <;> try contradiction)
      | refine WR.gIk rfl (by assumption) (by with_reducible assumption) ?_
      | refine WR.gI rfl (by assumption) ?_
      | refine WR.gR rfl (by assumption) (by assumption) ?_
      | refine WR.gN rfl (by assumption) (by assumption) ?_
      | refine WR.gL rfl (by assumption) ?_
      | refine WR.addn rfl (by with_reducible rfl) (by with_reducible rfl) ?_
      | refine WR.muln rfl (by with_reducible rfl) (by with_reducible rfl) ?_
      | refine WR.subn rfl (by with_reducible rfl) (by with_reducible rfl) (by omega) ?_
      | (refine WR.incn rfl rfl ?_; dsimp only [List.set])
      | (refine WR.decn rfl rfl ?_; dsimp only [List.set])
      | (refine WR.go rfl rfl ?_; try dsimp only [List.set])
      | refine WR.aIk rfl (by assumption) rfl (by first | with_reducible rfl | with_reducible assumption) (by omega) (by with_reducible assumption) ?_
      | refine WR.aI rfl (by assumption) rfl (by first | with_reducible rfl | with_reducible assumption) (by omega) ?_
      | refine WR.sI rfl (by assumption) rfl (by first | with_reducible rfl | with_reducible assumption) (by omega) ?_
      | refine WR.pI rfl (by assumption) ?_
      | refine WR.rt rfl rfl rfl rfl ?_
      | refine WR.rz rfl rfl (by decide) ?_)
    exact ⟨rfl, rfl⟩
  · rename_i h
    rw [h]
    have h' := c_sl_t.mp h
    repeat' (first
      | (with_reducible refine WR.lt (by omega) (by omega) (fun _ => ?_) (fun _ => ?_) <;> try (exfalso; omega))
      | (with_reducible refine WR.le (by omega) (by omega) (fun _ => ?_) (fun _ => ?_) <;> try (exfalso; omega))
      | (with_reducible refine WR.eq (by omega) (by omega) (fun _ => ?_) (fun _ => ?_) <;> try (exfalso; omega))
      | (with_reducible refine WR.ne (by omega) (by omega) (fun _ => ?_) (fun _ => ?_) <;> try (exfalso; omega))
      | with_reducible refine WR.lt0 (by omega) ?_
      | with_reducible refine WR.ge0 (by omega) ?_
      | (with_reducible refine WR.bz (fun _ => ?_) (fun _ => ?_) <;> try contradiction)
      | (with_reducible refine WR.bn (fun _ => ?_) (fun _ => ?_) <;> try contradiction)
      | (with_reducible refine WR.br (fun _ => ?_) (fun _ => ?_) <;> try contradiction)
      | refine WR.gIk rfl (by assumption) (by with_reducible assumption) ?_
      | refine WR.gI rfl (by assumption) ?_
      | refine WR.gR rfl (by assumption) (by assumption) ?_
      | refine WR.gN rfl (by assumption) (by assumption) ?_
      | refine WR.gL rfl (by assumption) ?_
      | refine WR.addn rfl (by with_reducible rfl) (by with_reducible rfl) ?_
      | refine WR.muln rfl (by with_reducible rfl) (by with_reducible rfl) ?_
      | refine WR.subn rfl (by with_reducible rfl) (by with_reducible rfl) (by omega) ?_
      | (refine WR.incn rfl rfl ?_; dsimp only [List.set])
      | (refine WR.decn rfl rfl ?_; dsimp only [List.set])
      | (refine WR.go rfl rfl ?_; try dsimp only [List.set])
      | refine WR.aIk rfl (by assumption) rfl (by first | with_reducible rfl | with_reducible assumption) (by omega) (by with_reducible assumption) ?_
      | refine WR.aI rfl (by assumption) rfl (by first | with_reducible rfl | with_reducible assumption) (by omega) ?_
      | refine WR.sI rfl (by assumption) rfl (by first | with_reducible rfl | with_reducible assumption) (by omega) ?_
      | refine WR.pI rfl (by assumption) ?_
      | refine WR.rt rfl rfl rfl rfl ?_
      | refine WR.rz rfl rfl (by decide) ?_)
    · rename_i h2
      exact ⟨rfl, by simp [h2, bI]; rfl⟩
    · rename_i h2
      exact ⟨rfl, by simp [h2, bI]; rfl⟩
set_option maxHeartbeats 1000000 in
theorem k_vballot (d : Nat) (I : xI) {v s : Nat} (hs : s < 2 ^ 31) (hv : vtK Z v) : ER Z (d + 3) 67 I [.ref v, .int (nI s)] (fun I' w => I' = I ∧ w = some (.int (c_vb I v s))) := by
  have hv0 := hv
  obtain ⟨v1, v2, v3, v4, v5⟩ := hv
  refine ER.of (ls := [some (.ref v), some (.int (nI s))]) rfl rfl ?_
  iterate 2 (first
      | (with_reducible refine WR.lt (by omega) (by omega) (fun _ => ?_) (fun _ => ?_) <;> try (exfalso; omega))
      | (with_reducible refine WR.le (by omega) (by omega) (fun _ => ?_) (fun _ => ?_) <;> try (exfalso; omega))
      | (with_reducible refine WR.eq (by omega) (by omega) (fun _ => ?_) (fun _ => ?_) <;> try (exfalso; omega))
      | (with_reducible refine WR.ne (by omega) (by omega) (fun _ => ?_) (fun _ => ?_) <;> try (exfalso; omega))
      | with_reducible refine WR.lt0 (by omega) ?_
      | with_reducible refine WR.ge0 (by omega) ?_
      | (with_reducible refine WR.bz (fun _ => ?_) (fun _ => ?_) <;> try contradiction)
      | (with_reducible refine WR.bn (fun _ => ?_) (fun _ => ?_) <;> try contradiction)
      | (with_reducible refine WR.br (fun _ => ?_) (fun _ => ?_) <;> try contradiction)
      | refine WR.gIk rfl (by assumption) (by with_reducible assumption) ?_
      | refine WR.gI rfl (by assumption) ?_
      | refine WR.gR rfl (by assumption) (by assumption) ?_
      | refine WR.gN rfl (by assumption) (by assumption) ?_
      | refine WR.gL rfl (by assumption) ?_
      | refine WR.addn rfl (by with_reducible rfl) (by with_reducible rfl) ?_
      | refine WR.muln rfl (by with_reducible rfl) (by with_reducible rfl) ?_
      | refine WR.subn rfl (by with_reducible rfl) (by with_reducible rfl) (by omega) ?_
      | (refine WR.incn rfl rfl ?_; dsimp only [List.set])
      | (refine WR.decn rfl rfl ?_; dsimp only [List.set])
      | (refine WR.go rfl rfl ?_; try dsimp only [List.set])
      | refine WR.aIk rfl (by assumption) rfl (by first | with_reducible rfl | with_reducible assumption) (by omega) (by with_reducible assumption) ?_
      | refine WR.aI rfl (by assumption) rfl (by first | with_reducible rfl | with_reducible assumption) (by omega) ?_
      | refine WR.sI rfl (by assumption) rfl (by first | with_reducible rfl | with_reducible assumption) (by omega) ?_
      | refine WR.pI rfl (by assumption) ?_
      | refine WR.rt rfl rfl rfl rfl ?_
      | refine WR.rz rfl rfl (by decide) ?_)
  refine WR.C1i rfl v1 rfl (k_vhas d I hs hv0) ?_
  iterate 2 (first
      | (with_reducible refine WR.lt (by omega) (by omega) (fun _ => ?_) (fun _ => ?_) <;> try (exfalso; omega))
      | (with_reducible refine WR.le (by omega) (by omega) (fun _ => ?_) (fun _ => ?_) <;> try (exfalso; omega))
      | (with_reducible refine WR.eq (by omega) (by omega) (fun _ => ?_) (fun _ => ?_) <;> try (exfalso; omega))
      | (with_reducible refine WR.ne (by omega) (by omega) (fun _ => ?_) (fun _ => ?_) <;> try (exfalso; omega))
      | with_reducible refine WR.lt0 (by omega) ?_
      | with_reducible refine WR.ge0 (by omega) ?_
      | (with_reducible refine WR.bz (fun _ => ?_) (fun _ => ?_) <;> try contradiction)
      | (with_reducible refine WR.bn (fun _ => ?_) (fun _ => ?_) <;> try contradiction)
      | (with_reducible refine WR.br (fun _ => ?_) (fun _ => ?_) <;> try contradiction)
      | refine WR.gIk rfl (by assumption) (by with_reducible assumption) ?_
      | refine WR.gI rfl (by assumption) ?_
      | refine WR.gR rfl (by assumption) (by assumption) ?_
      | refine WR.gN rfl (by assumption) (by assumption) ?_
      | refine WR.gL rfl (by assumption) ?_
      | refine WR.addn rfl (by with_reducible rfl) (by with_reducible rfl) ?_
      | refine WR.muln rfl (by with_reducible rfl) (by with_reducible rfl) ?_
      | refine WR.subn rfl (by with_reducible rfl) (by with_reducible rfl) (by omega) ?_
      | (refine WR.incn rfl rfl ?_; dsimp only [List.set])
      | (refine WR.decn rfl rfl ?_; dsimp only [List.set])
      | (refine WR.go rfl rfl ?_; try dsimp only [List.set])
      | refine WR.aIk rfl (by assumption) rfl (by first | with_reducible rfl | with_reducible assumption) (by omega) (by with_reducible assumption) ?_
      | refine WR.aI rfl (by assumption) rfl (by first | with_reducible rfl | with_reducible assumption) (by omega) ?_
      | refine WR.sI rfl (by assumption) rfl (by first | with_reducible rfl | with_reducible assumption) (by omega) ?_
      | refine WR.pI rfl (by assumption) ?_
      | refine WR.rt rfl rfl rfl rfl ?_
      | refine WR.rz rfl rfl (by decide) ?_)
  · rename_i h
    repeat' (first
      | (with_reducible refine WR.lt (by omega) (by omega) (fun _ => ?_) (fun _ => ?_) <;> try (exfalso; omega))
      | (with_reducible refine WR.le (by omega) (by omega) (fun _ => ?_) (fun _ => ?_) <;> try (exfalso; omega))
      | (with_reducible refine WR.eq (by omega) (by omega) (fun _ => ?_) (fun _ => ?_) <;> try (exfalso; omega))
      | (with_reducible refine WR.ne (by omega) (by omega) (fun _ => ?_) (fun _ => ?_) <;> try (exfalso; omega))
      | with_reducible refine WR.lt0 (by omega) ?_
      | with_reducible refine WR.ge0 (by omega) ?_
      | (with_reducible refine WR.bz (fun _ => ?_) (fun _ => ?_) <;> try contradiction)
      | (with_reducible refine WR.bn (fun _ => ?_) (fun _ => ?_) <;> try contradiction)
      | (with_reducible refine WR.br (fun _ => ?_) (fun _ => ?_) <;> try contradiction)
      | refine WR.gIk rfl (by assumption) (by with_reducible assumption) ?_
      | refine WR.gI rfl (by assumption) ?_
      | refine WR.gR rfl (by assumption) (by assumption) ?_
      | refine WR.gN rfl (by assumption) (by assumption) ?_
      | refine WR.gL rfl (by assumption) ?_
      | refine WR.addn rfl (by with_reducible rfl) (by with_reducible rfl) ?_
      | refine WR.muln rfl (by with_reducible rfl) (by with_reducible rfl) ?_
      | refine WR.subn rfl (by with_reducible rfl) (by with_reducible rfl) (by omega) ?_
      | (refine WR.incn rfl rfl ?_; dsimp only [List.set])
      | (refine WR.decn rfl rfl ?_; dsimp only [List.set])
      | (refine WR.go rfl rfl ?_; try dsimp only [List.set])
      | refine WR.aIk rfl (by assumption) rfl (by first | with_reducible rfl | with_reducible assumption) (by omega) (by with_reducible assumption) ?_
      | refine WR.aI rfl (by assumption) rfl (by first | with_reducible rfl | with_reducible assumption) (by omega) ?_
      | refine WR.sI rfl (by assumption) rfl (by first | with_reducible rfl | with_reducible assumption) (by omega) ?_
      | refine WR.pI rfl (by assumption) ?_
      | refine WR.rt rfl rfl rfl rfl ?_
      | refine WR.rz rfl rfl (by decide) ?_)
    refine ⟨rfl, ?_⟩
    rw [c_vh] at h
    rw [c_vb]
    cases h3 : c_sl s <;> simp_all [nI_zero]
  · rename_i h
    rw [c_vh, Bool.and_eq_true] at h
    have h' := c_sl_t.mp h.1
    repeat' (first
      | (with_reducible refine WR.lt (by omega) (by omega) (fun _ => ?_) (fun _ => ?_) <;> try (exfalso; omega))
      | (with_reducible refine WR.le (by omega) (by omega) (fun _ => ?_) (fun _ => ?_) <;> try (exfalso; omega))
      | (with_reducible refine WR.eq (by omega) (by omega) (fun _ => ?_) (fun _ => ?_) <;> try (exfalso; omega))
      | (with_reducible refine WR.ne (by omega) (by omega) (fun _ => ?_) (fun _ => ?_) <;> try (exfalso; omega))
      | with_reducible refine WR.lt0 (by omega) ?_
      | with_reducible refine WR.ge0 (by omega) ?_
      | (with_reducible refine WR.bz (fun _ => ?_) (fun _ => ?_) <;> try contradiction)
      | (with_reducible refine WR.bn (fun _ => ?_) (fun _ => ?_) <;> try contradiction)
      | (with_reducible refine WR.br (fun _ => ?_) (fun _ => ?_) <;> try contradiction)
      | refine WR.gIk rfl (by assumption) (by with_reducible assumption) ?_
      | refine WR.gI rfl (by assumption) ?_
      | refine WR.gR rfl (by assumption) (by assumption) ?_
      | refine WR.gN rfl (by assumption) (by assumption) ?_
      | refine WR.gL rfl (by assumption) ?_
      | refine WR.addn rfl (by with_reducible rfl) (by with_reducible rfl) ?_
      | refine WR.muln rfl (by with_reducible rfl) (by with_reducible rfl) ?_
      | refine WR.subn rfl (by with_reducible rfl) (by with_reducible rfl) (by omega) ?_
      | (refine WR.incn rfl rfl ?_; dsimp only [List.set])
      | (refine WR.decn rfl rfl ?_; dsimp only [List.set])
      | (refine WR.go rfl rfl ?_; try dsimp only [List.set])
      | refine WR.aIk rfl (by assumption) rfl (by first | with_reducible rfl | with_reducible assumption) (by omega) (by with_reducible assumption) ?_
      | refine WR.aI rfl (by assumption) rfl (by first | with_reducible rfl | with_reducible assumption) (by omega) ?_
      | refine WR.sI rfl (by assumption) rfl (by first | with_reducible rfl | with_reducible assumption) (by omega) ?_
      | refine WR.pI rfl (by assumption) ?_
      | refine WR.rt rfl rfl rfl rfl ?_
      | refine WR.rz rfl rfl (by decide) ?_)
    exact ⟨rfl, by rw [c_vb, if_pos h.1]⟩
set_option maxHeartbeats 1000000 in
theorem k_vcommand (d : Nat) (I : xI) {v s : Nat} (hs : s < 2 ^ 31) (hv : vtK Z v) : ER Z (d + 3) 69 I [.ref v, .int (nI s)] (fun I' w => I' = I ∧ w = some (.int (c_vc I v s))) := by
  have hv0 := hv
  obtain ⟨v1, v2, v3, v4, v5⟩ := hv
  refine ER.of (ls := [some (.ref v), some (.int (nI s))]) rfl rfl ?_
  iterate 2 (first
      | (with_reducible refine WR.lt (by omega) (by omega) (fun _ => ?_) (fun _ => ?_) <;> try (exfalso; omega))
      | (with_reducible refine WR.le (by omega) (by omega) (fun _ => ?_) (fun _ => ?_) <;> try (exfalso; omega))
      | (with_reducible refine WR.eq (by omega) (by omega) (fun _ => ?_) (fun _ => ?_) <;> try (exfalso; omega))
      | (with_reducible refine WR.ne (by omega) (by omega) (fun _ => ?_) (fun _ => ?_) <;> try (exfalso; omega))
      | with_reducible refine WR.lt0 (by omega) ?_
      | with_reducible refine WR.ge0 (by omega) ?_
      | (with_reducible refine WR.bz (fun _ => ?_) (fun _ => ?_) <;> try contradiction)
      | (with_reducible refine WR.bn (fun _ => ?_) (fun _ => ?_) <;> try contradiction)
      | (with_reducible refine WR.br (fun _ => ?_) (fun _ => ?_) <;> try contradiction)
      | refine WR.gIk rfl (by assumption) (by with_reducible assumption) ?_
      | refine WR.gI rfl (by assumption) ?_
      | refine WR.gR rfl (by assumption) (by assumption) ?_
      | refine WR.gN rfl (by assumption) (by assumption) ?_
      | refine WR.gL rfl (by assumption) ?_
      | refine WR.addn rfl (by with_reducible rfl) (by with_reducible rfl) ?_
      | refine WR.muln rfl (by with_reducible rfl) (by with_reducible rfl) ?_
      | refine WR.subn rfl (by with_reducible rfl) (by with_reducible rfl) (by omega) ?_
      | (refine WR.incn rfl rfl ?_; dsimp only [List.set])
      | (refine WR.decn rfl rfl ?_; dsimp only [List.set])
      | (refine WR.go rfl rfl ?_; try dsimp only [List.set])
      | refine WR.aIk rfl (by assumption) rfl (by first | with_reducible rfl | with_reducible assumption) (by omega) (by with_reducible assumption) ?_
      | refine WR.aI rfl (by assumption) rfl (by first | with_reducible rfl | with_reducible assumption) (by omega) ?_
      | refine WR.sI rfl (by assumption) rfl (by first | with_reducible rfl | with_reducible assumption) (by omega) ?_
      | refine WR.pI rfl (by assumption) ?_
      | refine WR.rt rfl rfl rfl rfl ?_
      | refine WR.rz rfl rfl (by decide) ?_)
  refine WR.C1i rfl v1 rfl (k_vhas d I hs hv0) ?_
  rw [c_vc]
  iterate 2 (first
      | (with_reducible refine WR.lt (by omega) (by omega) (fun _ => ?_) (fun _ => ?_) <;> try (exfalso; omega))
      | (with_reducible refine WR.le (by omega) (by omega) (fun _ => ?_) (fun _ => ?_) <;> try (exfalso; omega))
      | (with_reducible refine WR.eq (by omega) (by omega) (fun _ => ?_) (fun _ => ?_) <;> try (exfalso; omega))
      | (with_reducible refine WR.ne (by omega) (by omega) (fun _ => ?_) (fun _ => ?_) <;> try (exfalso; omega))
      | with_reducible refine WR.lt0 (by omega) ?_
      | with_reducible refine WR.ge0 (by omega) ?_
      | (with_reducible refine WR.bz (fun _ => ?_) (fun _ => ?_) <;> try contradiction)
      | (with_reducible refine WR.bn (fun _ => ?_) (fun _ => ?_) <;> try contradiction)
      | (with_reducible refine WR.br (fun _ => ?_) (fun _ => ?_) <;> try contradiction)
      | refine WR.gIk rfl (by assumption) (by with_reducible assumption) ?_
      | refine WR.gI rfl (by assumption) ?_
      | refine WR.gR rfl (by assumption) (by assumption) ?_
      | refine WR.gN rfl (by assumption) (by assumption) ?_
      | refine WR.gL rfl (by assumption) ?_
      | refine WR.addn rfl (by with_reducible rfl) (by with_reducible rfl) ?_
      | refine WR.muln rfl (by with_reducible rfl) (by with_reducible rfl) ?_
      | refine WR.subn rfl (by with_reducible rfl) (by with_reducible rfl) (by omega) ?_
      | (refine WR.incn rfl rfl ?_; dsimp only [List.set])
      | (refine WR.decn rfl rfl ?_; dsimp only [List.set])
      | (refine WR.go rfl rfl ?_; try dsimp only [List.set])
      | refine WR.aIk rfl (by assumption) rfl (by first | with_reducible rfl | with_reducible assumption) (by omega) (by with_reducible assumption) ?_
      | refine WR.aI rfl (by assumption) rfl (by first | with_reducible rfl | with_reducible assumption) (by omega) ?_
      | refine WR.sI rfl (by assumption) rfl (by first | with_reducible rfl | with_reducible assumption) (by omega) ?_
      | refine WR.pI rfl (by assumption) ?_
      | refine WR.rt rfl rfl rfl rfl ?_
      | refine WR.rz rfl rfl (by decide) ?_)
  · rename_i h
    rw [h]
    repeat' (first
      | (with_reducible refine WR.lt (by omega) (by omega) (fun _ => ?_) (fun _ => ?_) <;> try (exfalso; omega))
      | (with_reducible refine WR.le (by omega) (by omega) (fun _ => ?_) (fun _ => ?_) <;> try (exfalso; omega))
      | (with_reducible refine WR.eq (by omega) (by omega) (fun _ => ?_) (fun _ => ?_) <;> try (exfalso; omega))
      | (with_reducible refine WR.ne (by omega) (by omega) (fun _ => ?_) (fun _ => ?_) <;> try (exfalso; omega))
      | with_reducible refine WR.lt0 (by omega) ?_
      | with_reducible refine WR.ge0 (by omega) ?_
      | (with_reducible refine WR.bz (fun _ => ?_) (fun _ => ?_) <;> try contradiction)
      | (with_reducible refine WR.bn (fun _ => ?_) (fun _ => ?_) <;> try contradiction)
      | (with_reducible refine WR.br (fun _ => ?_) (fun _ => ?_) <;> try contradiction)
      | refine WR.gIk rfl (by assumption) (by with_reducible assumption) ?_
      | refine WR.gI rfl (by assumption) ?_
      | refine WR.gR rfl (by assumption) (by assumption) ?_
      | refine WR.gN rfl (by assumption) (by assumption) ?_
      | refine WR.gL rfl (by assumption) ?_
      | refine WR.addn rfl (by with_reducible rfl) (by with_reducible rfl) ?_
      | refine WR.muln rfl (by with_reducible rfl) (by with_reducible rfl) ?_
      | refine WR.subn rfl (by with_reducible rfl) (by with_reducible rfl) (by omega) ?_
      | (refine WR.incn rfl rfl ?_; dsimp only [List.set])
      | (refine WR.decn rfl rfl ?_; dsimp only [List.set])
      | (refine WR.go rfl rfl ?_; try dsimp only [List.set])
      | refine WR.aIk rfl (by assumption) rfl (by first | with_reducible rfl | with_reducible assumption) (by omega) (by with_reducible assumption) ?_
      | refine WR.aI rfl (by assumption) rfl (by first | with_reducible rfl | with_reducible assumption) (by omega) ?_
      | refine WR.sI rfl (by assumption) rfl (by first | with_reducible rfl | with_reducible assumption) (by omega) ?_
      | refine WR.pI rfl (by assumption) ?_
      | refine WR.rt rfl rfl rfl rfl ?_
      | refine WR.rz rfl rfl (by decide) ?_)
    exact ⟨rfl, rfl⟩
  · rename_i h
    rw [h]
    rw [c_vh, Bool.and_eq_true] at h
    have h' := c_sl_t.mp h.1
    repeat' (first
      | (with_reducible refine WR.lt (by omega) (by omega) (fun _ => ?_) (fun _ => ?_) <;> try (exfalso; omega))
      | (with_reducible refine WR.le (by omega) (by omega) (fun _ => ?_) (fun _ => ?_) <;> try (exfalso; omega))
      | (with_reducible refine WR.eq (by omega) (by omega) (fun _ => ?_) (fun _ => ?_) <;> try (exfalso; omega))
      | (with_reducible refine WR.ne (by omega) (by omega) (fun _ => ?_) (fun _ => ?_) <;> try (exfalso; omega))
      | with_reducible refine WR.lt0 (by omega) ?_
      | with_reducible refine WR.ge0 (by omega) ?_
      | (with_reducible refine WR.bz (fun _ => ?_) (fun _ => ?_) <;> try contradiction)
      | (with_reducible refine WR.bn (fun _ => ?_) (fun _ => ?_) <;> try contradiction)
      | (with_reducible refine WR.br (fun _ => ?_) (fun _ => ?_) <;> try contradiction)
      | refine WR.gIk rfl (by assumption) (by with_reducible assumption) ?_
      | refine WR.gI rfl (by assumption) ?_
      | refine WR.gR rfl (by assumption) (by assumption) ?_
      | refine WR.gN rfl (by assumption) (by assumption) ?_
      | refine WR.gL rfl (by assumption) ?_
      | refine WR.addn rfl (by with_reducible rfl) (by with_reducible rfl) ?_
      | refine WR.muln rfl (by with_reducible rfl) (by with_reducible rfl) ?_
      | refine WR.subn rfl (by with_reducible rfl) (by with_reducible rfl) (by omega) ?_
      | (refine WR.incn rfl rfl ?_; dsimp only [List.set])
      | (refine WR.decn rfl rfl ?_; dsimp only [List.set])
      | (refine WR.go rfl rfl ?_; try dsimp only [List.set])
      | refine WR.aIk rfl (by assumption) rfl (by first | with_reducible rfl | with_reducible assumption) (by omega) (by with_reducible assumption) ?_
      | refine WR.aI rfl (by assumption) rfl (by first | with_reducible rfl | with_reducible assumption) (by omega) ?_
      | refine WR.sI rfl (by assumption) rfl (by first | with_reducible rfl | with_reducible assumption) (by omega) ?_
      | refine WR.pI rfl (by assumption) ?_
      | refine WR.rt rfl rfl rfl rfl ?_
      | refine WR.rz rfl rfl (by decide) ?_)
    exact ⟨rfl, rfl⟩
set_option maxHeartbeats 1000000 in
theorem k_vput (d : Nat) (I : xI) {v s : Nat} (b c : Int32) (hs : s < 2 ^ 31) (hv : vtK Z v) : ER Z (d + 2) 64 I [.ref v, .int (nI s), .int b, .int c] (fun I' w => I' = c_vp I v s b c ∧ w = none) := by
  obtain ⟨v1, v2, v3, v4, v5⟩ := hv
  refine ER.of (ls := [some (.ref v), some (.int (nI s)), some (.int b), some (.int c)]) rfl rfl ?_
  iterate 1 (first
      | (with_reducible refine WR.lt (by omega) (by omega) (fun _ => ?_) (fun _ => ?_) <;> try (exfalso; omega))
      | (with_reducible refine WR.le (by omega) (by omega) (fun _ => ?_) (fun _ => ?_) <;> try (exfalso; omega))
      | (with_reducible refine WR.eq (by omega) (by omega) (fun _ => ?_) (fun _ => ?_) <;> try (exfalso; omega))
      | (with_reducible refine WR.ne (by omega) (by omega) (fun _ => ?_) (fun _ => ?_) <;> try (exfalso; omega))
      | with_reducible refine WR.lt0 (by omega) ?_
      | with_reducible refine WR.ge0 (by omega) ?_
      | (with_reducible refine WR.bz (fun _ => ?_) (fun _ => ?_) <;> try contradiction)
      | (with_reducible refine WR.bn (fun _ => ?_) (fun _ => ?_) <;> try contradiction)
      | (with_reducible refine WR.br (fun _ => ?_) (fun _ => ?_) <;> try contradiction)
      | refine WR.gIk rfl (by assumption) (by with_reducible assumption) ?_
      | refine WR.gI rfl (by assumption) ?_
      | refine WR.gR rfl (by assumption) (by assumption) ?_
      | refine WR.gN rfl (by assumption) (by assumption) ?_
      | refine WR.gL rfl (by assumption) ?_
      | refine WR.addn rfl (by with_reducible rfl) (by with_reducible rfl) ?_
      | refine WR.muln rfl (by with_reducible rfl) (by with_reducible rfl) ?_
      | refine WR.subn rfl (by with_reducible rfl) (by with_reducible rfl) (by omega) ?_
      | (refine WR.incn rfl rfl ?_; dsimp only [List.set])
      | (refine WR.decn rfl rfl ?_; dsimp only [List.set])
      | (refine WR.go rfl rfl ?_; try dsimp only [List.set])
      | refine WR.aIk rfl (by assumption) rfl (by first | with_reducible rfl | with_reducible assumption) (by omega) (by with_reducible assumption) ?_
      | refine WR.aI rfl (by assumption) rfl (by first | with_reducible rfl | with_reducible assumption) (by omega) ?_
      | refine WR.sI rfl (by assumption) rfl (by first | with_reducible rfl | with_reducible assumption) (by omega) ?_
      | refine WR.pI rfl (by assumption) ?_
      | refine WR.rt rfl rfl rfl rfl ?_
      | refine WR.rz rfl rfl (by decide) ?_)
  refine WR.S1i rfl rfl (k_slot d I hs) ?_
  rw [c_vp]
  iterate 2 (first
      | (with_reducible refine WR.lt (by omega) (by omega) (fun _ => ?_) (fun _ => ?_) <;> try (exfalso; omega))
      | (with_reducible refine WR.le (by omega) (by omega) (fun _ => ?_) (fun _ => ?_) <;> try (exfalso; omega))
      | (with_reducible refine WR.eq (by omega) (by omega) (fun _ => ?_) (fun _ => ?_) <;> try (exfalso; omega))
      | (with_reducible refine WR.ne (by omega) (by omega) (fun _ => ?_) (fun _ => ?_) <;> try (exfalso; omega))
      | with_reducible refine WR.lt0 (by omega) ?_
      | with_reducible refine WR.ge0 (by omega) ?_
      | (with_reducible refine WR.bz (fun _ => ?_) (fun _ => ?_) <;> try contradiction)
      | (with_reducible refine WR.bn (fun _ => ?_) (fun _ => ?_) <;> try contradiction)
      | (with_reducible refine WR.br (fun _ => ?_) (fun _ => ?_) <;> try contradiction)
      | refine WR.gIk rfl (by assumption) (by with_reducible assumption) ?_
      | refine WR.gI rfl (by assumption) ?_
      | refine WR.gR rfl (by assumption) (by assumption) ?_
      | refine WR.gN rfl (by assumption) (by assumption) ?_
      | refine WR.gL rfl (by assumption) ?_
      | refine WR.addn rfl (by with_reducible rfl) (by with_reducible rfl) ?_
      | refine WR.muln rfl (by with_reducible rfl) (by with_reducible rfl) ?_
      | refine WR.subn rfl (by with_reducible rfl) (by with_reducible rfl) (by omega) ?_
      | (refine WR.incn rfl rfl ?_; dsimp only [List.set])
      | (refine WR.decn rfl rfl ?_; dsimp only [List.set])
      | (refine WR.go rfl rfl ?_; try dsimp only [List.set])
      | refine WR.aIk rfl (by assumption) rfl (by first | with_reducible rfl | with_reducible assumption) (by omega) (by with_reducible assumption) ?_
      | refine WR.aI rfl (by assumption) rfl (by first | with_reducible rfl | with_reducible assumption) (by omega) ?_
      | refine WR.sI rfl (by assumption) rfl (by first | with_reducible rfl | with_reducible assumption) (by omega) ?_
      | refine WR.pI rfl (by assumption) ?_
      | refine WR.rt rfl rfl rfl rfl ?_
      | refine WR.rz rfl rfl (by decide) ?_)
  · rename_i h
    rw [h]
    repeat' (first
      | (with_reducible refine WR.lt (by omega) (by omega) (fun _ => ?_) (fun _ => ?_) <;> try (exfalso; omega))
      | (with_reducible refine WR.le (by omega) (by omega) (fun _ => ?_) (fun _ => ?_) <;> try (exfalso; omega))
      | (with_reducible refine WR.eq (by omega) (by omega) (fun _ => ?_) (fun _ => ?_) <;> try (exfalso; omega))
      | (with_reducible refine WR.ne (by omega) (by omega) (fun _ => ?_) (fun _ => ?_) <;> try (exfalso; omega))
      | with_reducible refine WR.lt0 (by omega) ?_
      | with_reducible refine WR.ge0 (by omega) ?_
      | (with_reducible refine WR.bz (fun _ => ?_) (fun _ => ?_) <;> try contradiction)
      | (with_reducible refine WR.bn (fun _ => ?_) (fun _ => ?_) <;> try contradiction)
      | (with_reducible refine WR.br (fun _ => ?_) (fun _ => ?_) <;> try contradiction)
      | refine WR.gIk rfl (by assumption) (by with_reducible assumption) ?_
      | refine WR.gI rfl (by assumption) ?_
      | refine WR.gR rfl (by assumption) (by assumption) ?_
      | refine WR.gN rfl (by assumption) (by assumption) ?_
      | refine WR.gL rfl (by assumption) ?_
      | refine WR.addn rfl (by with_reducible rfl) (by with_reducible rfl) ?_
      | refine WR.muln rfl (by with_reducible rfl) (by with_reducible rfl) ?_
      | refine WR.subn rfl (by with_reducible rfl) (by with_reducible rfl) (by omega) ?_
      | (refine WR.incn rfl rfl ?_; dsimp only [List.set])
      | (refine WR.decn rfl rfl ?_; dsimp only [List.set])
      | (refine WR.go rfl rfl ?_; try dsimp only [List.set])
      | refine WR.aIk rfl (by assumption) rfl (by first | with_reducible rfl | with_reducible assumption) (by omega) (by with_reducible assumption) ?_
      | refine WR.aI rfl (by assumption) rfl (by first | with_reducible rfl | with_reducible assumption) (by omega) ?_
      | refine WR.sI rfl (by assumption) rfl (by first | with_reducible rfl | with_reducible assumption) (by omega) ?_
      | refine WR.pI rfl (by assumption) ?_
      | refine WR.rt rfl rfl rfl rfl ?_
      | refine WR.rz rfl rfl (by decide) ?_)
    exact ⟨rfl, rfl⟩
  · rename_i h
    rw [h]
    have h' := c_sl_t.mp h
    repeat' (first
      | (with_reducible refine WR.lt (by omega) (by omega) (fun _ => ?_) (fun _ => ?_) <;> try (exfalso; omega))
      | (with_reducible refine WR.le (by omega) (by omega) (fun _ => ?_) (fun _ => ?_) <;> try (exfalso; omega))
      | (with_reducible refine WR.eq (by omega) (by omega) (fun _ => ?_) (fun _ => ?_) <;> try (exfalso; omega))
      | (with_reducible refine WR.ne (by omega) (by omega) (fun _ => ?_) (fun _ => ?_) <;> try (exfalso; omega))
      | with_reducible refine WR.lt0 (by omega) ?_
      | with_reducible refine WR.ge0 (by omega) ?_
      | (with_reducible refine WR.bz (fun _ => ?_) (fun _ => ?_) <;> try contradiction)
      | (with_reducible refine WR.bn (fun _ => ?_) (fun _ => ?_) <;> try contradiction)
      | (with_reducible refine WR.br (fun _ => ?_) (fun _ => ?_) <;> try contradiction)
      | refine WR.gIk rfl (by assumption) (by with_reducible assumption) ?_
      | refine WR.gI rfl (by assumption) ?_
      | refine WR.gR rfl (by assumption) (by assumption) ?_
      | refine WR.gN rfl (by assumption) (by assumption) ?_
      | refine WR.gL rfl (by assumption) ?_
      | refine WR.addn rfl (by with_reducible rfl) (by with_reducible rfl) ?_
      | refine WR.muln rfl (by with_reducible rfl) (by with_reducible rfl) ?_
      | refine WR.subn rfl (by with_reducible rfl) (by with_reducible rfl) (by omega) ?_
      | (refine WR.incn rfl rfl ?_; dsimp only [List.set])
      | (refine WR.decn rfl rfl ?_; dsimp only [List.set])
      | (refine WR.go rfl rfl ?_; try dsimp only [List.set])
      | refine WR.aIk rfl (by assumption) rfl (by first | with_reducible rfl | with_reducible assumption) (by omega) (by with_reducible assumption) ?_
      | refine WR.aI rfl (by assumption) rfl (by first | with_reducible rfl | with_reducible assumption) (by omega) ?_
      | refine WR.sI rfl (by assumption) rfl (by first | with_reducible rfl | with_reducible assumption) (by omega) ?_
      | refine WR.pI rfl (by assumption) ?_
      | refine WR.rt rfl rfl rfl rfl ?_
      | refine WR.rz rfl rfl (by decide) ?_)
    exact ⟨rfl, rfl⟩
set_option maxHeartbeats 1000000 in
theorem k_chas (d : Nat) (I : xI) {k s : Nat} (hs : s < 2 ^ 31) (hv : cmK Z k) : ER Z (d + 2) 13 I [.ref k, .int (nI s)] (fun I' w => I' = I ∧ w = some (.int (bI (c_ch I k s)))) := by
  obtain ⟨v1, v2, v3⟩ := hv
  refine ER.of (ls := [some (.ref k), some (.int (nI s))]) rfl rfl ?_
  iterate 1 (first
      | (with_reducible refine WR.lt (by omega) (by omega) (fun _ => ?_) (fun _ => ?_) <;> try (exfalso; omega))
      | (with_reducible refine WR.le (by omega) (by omega) (fun _ => ?_) (fun _ => ?_) <;> try (exfalso; omega))
      | (with_reducible refine WR.eq (by omega) (by omega) (fun _ => ?_) (fun _ => ?_) <;> try (exfalso; omega))
      | (with_reducible refine WR.ne (by omega) (by omega) (fun _ => ?_) (fun _ => ?_) <;> try (exfalso; omega))
      | with_reducible refine WR.lt0 (by omega) ?_
      | with_reducible refine WR.ge0 (by omega) ?_
      | (with_reducible refine WR.bz (fun _ => ?_) (fun _ => ?_) <;> try contradiction)
      | (with_reducible refine WR.bn (fun _ => ?_) (fun _ => ?_) <;> try contradiction)
      | (with_reducible refine WR.br (fun _ => ?_) (fun _ => ?_) <;> try contradiction)
      | refine WR.gIk rfl (by assumption) (by with_reducible assumption) ?_
      | refine WR.gI rfl (by assumption) ?_
      | refine WR.gR rfl (by assumption) (by assumption) ?_
      | refine WR.gN rfl (by assumption) (by assumption) ?_
      | refine WR.gL rfl (by assumption) ?_
      | refine WR.addn rfl (by with_reducible rfl) (by with_reducible rfl) ?_
      | refine WR.muln rfl (by with_reducible rfl) (by with_reducible rfl) ?_
      | refine WR.subn rfl (by with_reducible rfl) (by with_reducible rfl) (by omega) ?_
      | (refine WR.incn rfl rfl ?_; dsimp only [List.set])
      | (refine WR.decn rfl rfl ?_; dsimp only [List.set])
      | (refine WR.go rfl rfl ?_; try dsimp only [List.set])
      | refine WR.aIk rfl (by assumption) rfl (by first | with_reducible rfl | with_reducible assumption) (by omega) (by with_reducible assumption) ?_
      | refine WR.aI rfl (by assumption) rfl (by first | with_reducible rfl | with_reducible assumption) (by omega) ?_
      | refine WR.sI rfl (by assumption) rfl (by first | with_reducible rfl | with_reducible assumption) (by omega) ?_
      | refine WR.pI rfl (by assumption) ?_
      | refine WR.rt rfl rfl rfl rfl ?_
      | refine WR.rz rfl rfl (by decide) ?_)
  refine WR.S1i rfl rfl (k_slot d I hs) ?_
  rw [c_ch]
  iterate 2 (first
      | (with_reducible refine WR.lt (by omega) (by omega) (fun _ => ?_) (fun _ => ?_) <;> try (exfalso; omega))
      | (with_reducible refine WR.le (by omega) (by omega) (fun _ => ?_) (fun _ => ?_) <;> try (exfalso; omega))
      | (with_reducible refine WR.eq (by omega) (by omega) (fun _ => ?_) (fun _ => ?_) <;> try (exfalso; omega))
      | (with_reducible refine WR.ne (by omega) (by omega) (fun _ => ?_) (fun _ => ?_) <;> try (exfalso; omega))
      | with_reducible refine WR.lt0 (by omega) ?_
      | with_reducible refine WR.ge0 (by omega) ?_
      | (with_reducible refine WR.bz (fun _ => ?_) (fun _ => ?_) <;> try contradiction)
      | (with_reducible refine WR.bn (fun _ => ?_) (fun _ => ?_) <;> try contradiction)
      | (with_reducible refine WR.br (fun _ => ?_) (fun _ => ?_) <;> try contradiction)
      | refine WR.gIk rfl (by assumption) (by with_reducible assumption) ?_
      | refine WR.gI rfl (by assumption) ?_
      | refine WR.gR rfl (by assumption) (by assumption) ?_
      | refine WR.gN rfl (by assumption) (by assumption) ?_
      | refine WR.gL rfl (by assumption) ?_
      | refine WR.addn rfl (by with_reducible rfl) (by with_reducible rfl) ?_
      | refine WR.muln rfl (by with_reducible rfl) (by with_reducible rfl) ?_
      | refine WR.subn rfl (by with_reducible rfl) (by with_reducible rfl) (by omega) ?_
      | (refine WR.incn rfl rfl ?_; dsimp only [List.set])
      | (refine WR.decn rfl rfl ?_; dsimp only [List.set])
      | (refine WR.go rfl rfl ?_; try dsimp only [List.set])
      | refine WR.aIk rfl (by assumption) rfl (by first | with_reducible rfl | with_reducible assumption) (by omega) (by with_reducible assumption) ?_
      | refine WR.aI rfl (by assumption) rfl (by first | with_reducible rfl | with_reducible assumption) (by omega) ?_
      | refine WR.sI rfl (by assumption) rfl (by first | with_reducible rfl | with_reducible assumption) (by omega) ?_
      | refine WR.pI rfl (by assumption) ?_
      | refine WR.rt rfl rfl rfl rfl ?_
      | refine WR.rz rfl rfl (by decide) ?_)
  · rename_i h
    rw [h]
    repeat' (first
      | (with_reducible refine WR.lt (by omega) (by omega) (fun _ => ?_) (fun _ => ?_) <;> try (exfalso; omega))
      | (with_reducible refine WR.le (by omega) (by omega) (fun _ => ?_) (fun _ => ?_) <;> try (exfalso; omega))
      | (with_reducible refine WR.eq (by omega) (by omega) (fun _ => ?_) (fun _ => ?_) <;> try (exfalso; omega))
      | (with_reducible refine WR.ne (by omega) (by omega) (fun _ => ?_) (fun _ => ?_) <;> try (exfalso; omega))
      | with_reducible refine WR.lt0 (by omega) ?_
      | with_reducible refine WR.ge0 (by omega) ?_
      | (with_reducible refine WR.bz (fun _ => ?_) (fun _ => ?_) <;> try contradiction)
      | (with_reducible refine WR.bn (fun _ => ?_) (fun _ => ?_) <;> try contradiction)
      | (with_reducible refine WR.br (fun _ => ?_) (fun _ => ?_) <;> try contradiction)
      | refine WR.gIk rfl (by assumption) (by with_reducible assumption) ?_
      | refine WR.gI rfl (by assumption) ?_
      | refine WR.gR rfl (by assumption) (by assumption) ?_
      | refine WR.gN rfl (by assumption) (by assumption) ?_
      | refine WR.gL rfl (by assumption) ?_
      | refine WR.addn rfl (by with_reducible rfl) (by with_reducible rfl) ?_
      | refine WR.muln rfl (by with_reducible rfl) (by with_reducible rfl) ?_
      | refine WR.subn rfl (by with_reducible rfl) (by with_reducible rfl) (by omega) ?_
      | (refine WR.incn rfl rfl ?_; dsimp only [List.set])
      | (refine WR.decn rfl rfl ?_; dsimp only [List.set])
      | (refine WR.go rfl rfl ?_; try dsimp only [List.set])
      | refine WR.aIk rfl (by assumption) rfl (by first | with_reducible rfl | with_reducible assumption) (by omega) (by with_reducible assumption) ?_
      | refine WR.aI rfl (by assumption) rfl (by first | with_reducible rfl | with_reducible assumption) (by omega) ?_
      | refine WR.sI rfl (by assumption) rfl (by first | with_reducible rfl | with_reducible assumption) (by omega) ?_
      | refine WR.pI rfl (by assumption) ?_
      | refine WR.rt rfl rfl rfl rfl ?_
      | refine WR.rz rfl rfl (by decide) ?_)
    exact ⟨rfl, rfl⟩
  · rename_i h
    rw [h]
    have h' := c_sl_t.mp h
    repeat' (first
      | (with_reducible refine WR.lt (by omega) (by omega) (fun _ => ?_) (fun _ => ?_) <;> try (exfalso; omega))
      | (with_reducible refine WR.le (by omega) (by omega) (fun _ => ?_) (fun _ => ?_) <;> try (exfalso; omega))
      | (with_reducible refine WR.eq (by omega) (by omega) (fun _ => ?_) (fun _ => ?_) <;> try (exfalso; omega))
      | (with_reducible refine WR.ne (by omega) (by omega) (fun _ => ?_) (fun _ => ?_) <;> try (exfalso; omega))
      | with_reducible refine WR.lt0 (by omega) ?_
      | with_reducible refine WR.ge0 (by omega) ?_
      | (with_reducible refine WR.bz (fun _ => ?_) (fun _ => ?_) <;> try contradiction)
      | (with_reducible refine WR.bn (fun _ => ?_) (fun _ => ?_) <;> try contradiction)
      | (with_reducible refine WR.br (fun _ => ?_) (fun _ => ?_) <;> try contradiction)
      | refine WR.gIk rfl (by assumption) (by with_reducible assumption) ?_
      | refine WR.gI rfl (by assumption) ?_
      | refine WR.gR rfl (by assumption) (by assumption) ?_
      | refine WR.gN rfl (by assumption) (by assumption) ?_
      | refine WR.gL rfl (by assumption) ?_
      | refine WR.addn rfl (by with_reducible rfl) (by with_reducible rfl) ?_
      | refine WR.muln rfl (by with_reducible rfl) (by with_reducible rfl) ?_
      | refine WR.subn rfl (by with_reducible rfl) (by with_reducible rfl) (by omega) ?_
      | (refine WR.incn rfl rfl ?_; dsimp only [List.set])
      | (refine WR.decn rfl rfl ?_; dsimp only [List.set])
      | (refine WR.go rfl rfl ?_; try dsimp only [List.set])
      | refine WR.aIk rfl (by assumption) rfl (by first | with_reducible rfl | with_reducible assumption) (by omega) (by with_reducible assumption) ?_
      | refine WR.aI rfl (by assumption) rfl (by first | with_reducible rfl | with_reducible assumption) (by omega) ?_
      | refine WR.sI rfl (by assumption) rfl (by first | with_reducible rfl | with_reducible assumption) (by omega) ?_
      | refine WR.pI rfl (by assumption) ?_
      | refine WR.rt rfl rfl rfl rfl ?_
      | refine WR.rz rfl rfl (by decide) ?_)
    · rename_i h2
      exact ⟨rfl, by simp [h2, bI]; rfl⟩
    · rename_i h2
      exact ⟨rfl, by simp [h2, bI]; rfl⟩
set_option maxHeartbeats 1000000 in
theorem k_cat (d : Nat) (I : xI) {k s : Nat} (hs : s < 2 ^ 31) (hv : cmK Z k) : ER Z (d + 2) 12 I [.ref k, .int (nI s)] (fun I' w => I' = I ∧ w = some (.int (c_ca I k s))) := by
  obtain ⟨v1, v2, v3⟩ := hv
  refine ER.of (ls := [some (.ref k), some (.int (nI s))]) rfl rfl ?_
  iterate 1 (first
      | (with_reducible refine WR.lt (by omega) (by omega) (fun _ => ?_) (fun _ => ?_) <;> try (exfalso; omega))
      | (with_reducible refine WR.le (by omega) (by omega) (fun _ => ?_) (fun _ => ?_) <;> try (exfalso; omega))
      | (with_reducible refine WR.eq (by omega) (by omega) (fun _ => ?_) (fun _ => ?_) <;> try (exfalso; omega))
      | (with_reducible refine WR.ne (by omega) (by omega) (fun _ => ?_) (fun _ => ?_) <;> try (exfalso; omega))
      | with_reducible refine WR.lt0 (by omega) ?_
      | with_reducible refine WR.ge0 (by omega) ?_
      | (with_reducible refine WR.bz (fun _ => ?_) (fun _ => ?_) <;> try contradiction)
      | (with_reducible refine WR.bn (fun _ => ?_) (fun _ => ?_) <;> try contradiction)
      | (with_reducible refine WR.br (fun _ => ?_) (fun _ => ?_) <;> try contradiction)
      | refine WR.gIk rfl (by assumption) (by with_reducible assumption) ?_
      | refine WR.gI rfl (by assumption) ?_
      | refine WR.gR rfl (by assumption) (by assumption) ?_
      | refine WR.gN rfl (by assumption) (by assumption) ?_
      | refine WR.gL rfl (by assumption) ?_
      | refine WR.addn rfl (by with_reducible rfl) (by with_reducible rfl) ?_
      | refine WR.muln rfl (by with_reducible rfl) (by with_reducible rfl) ?_
      | refine WR.subn rfl (by with_reducible rfl) (by with_reducible rfl) (by omega) ?_
      | (refine WR.incn rfl rfl ?_; dsimp only [List.set])
      | (refine WR.decn rfl rfl ?_; dsimp only [List.set])
      | (refine WR.go rfl rfl ?_; try dsimp only [List.set])
      | refine WR.aIk rfl (by assumption) rfl (by first | with_reducible rfl | with_reducible assumption) (by omega) (by with_reducible assumption) ?_
      | refine WR.aI rfl (by assumption) rfl (by first | with_reducible rfl | with_reducible assumption) (by omega) ?_
      | refine WR.sI rfl (by assumption) rfl (by first | with_reducible rfl | with_reducible assumption) (by omega) ?_
      | refine WR.pI rfl (by assumption) ?_
      | refine WR.rt rfl rfl rfl rfl ?_
      | refine WR.rz rfl rfl (by decide) ?_)
  refine WR.S1i rfl rfl (k_slot d I hs) ?_
  rw [c_ca]
  iterate 2 (first
      | (with_reducible refine WR.lt (by omega) (by omega) (fun _ => ?_) (fun _ => ?_) <;> try (exfalso; omega))
      | (with_reducible refine WR.le (by omega) (by omega) (fun _ => ?_) (fun _ => ?_) <;> try (exfalso; omega))
      | (with_reducible refine WR.eq (by omega) (by omega) (fun _ => ?_) (fun _ => ?_) <;> try (exfalso; omega))
      | (with_reducible refine WR.ne (by omega) (by omega) (fun _ => ?_) (fun _ => ?_) <;> try (exfalso; omega))
      | with_reducible refine WR.lt0 (by omega) ?_
      | with_reducible refine WR.ge0 (by omega) ?_
      | (with_reducible refine WR.bz (fun _ => ?_) (fun _ => ?_) <;> try contradiction)
      | (with_reducible refine WR.bn (fun _ => ?_) (fun _ => ?_) <;> try contradiction)
      | (with_reducible refine WR.br (fun _ => ?_) (fun _ => ?_) <;> try contradiction)
      | refine WR.gIk rfl (by assumption) (by with_reducible assumption) ?_
      | refine WR.gI rfl (by assumption) ?_
      | refine WR.gR rfl (by assumption) (by assumption) ?_
      | refine WR.gN rfl (by assumption) (by assumption) ?_
      | refine WR.gL rfl (by assumption) ?_
      | refine WR.addn rfl (by with_reducible rfl) (by with_reducible rfl) ?_
      | refine WR.muln rfl (by with_reducible rfl) (by with_reducible rfl) ?_
      | refine WR.subn rfl (by with_reducible rfl) (by with_reducible rfl) (by omega) ?_
      | (refine WR.incn rfl rfl ?_; dsimp only [List.set])
      | (refine WR.decn rfl rfl ?_; dsimp only [List.set])
      | (refine WR.go rfl rfl ?_; try dsimp only [List.set])
      | refine WR.aIk rfl (by assumption) rfl (by first | with_reducible rfl | with_reducible assumption) (by omega) (by with_reducible assumption) ?_
      | refine WR.aI rfl (by assumption) rfl (by first | with_reducible rfl | with_reducible assumption) (by omega) ?_
      | refine WR.sI rfl (by assumption) rfl (by first | with_reducible rfl | with_reducible assumption) (by omega) ?_
      | refine WR.pI rfl (by assumption) ?_
      | refine WR.rt rfl rfl rfl rfl ?_
      | refine WR.rz rfl rfl (by decide) ?_)
  · rename_i h
    rw [h]
    repeat' (first
      | (with_reducible refine WR.lt (by omega) (by omega) (fun _ => ?_) (fun _ => ?_) <;> try (exfalso; omega))
      | (with_reducible refine WR.le (by omega) (by omega) (fun _ => ?_) (fun _ => ?_) <;> try (exfalso; omega))
      | (with_reducible refine WR.eq (by omega) (by omega) (fun _ => ?_) (fun _ => ?_) <;> try (exfalso; omega))
      | (with_reducible refine WR.ne (by omega) (by omega) (fun _ => ?_) (fun _ => ?_) <;> try (exfalso; omega))
      | with_reducible refine WR.lt0 (by omega) ?_
      | with_reducible refine WR.ge0 (by omega) ?_
      | (with_reducible refine WR.bz (fun _ => ?_) (fun _ => ?_) <;> try contradiction)
      | (with_reducible refine WR.bn (fun _ => ?_) (fun _ => ?_) <;> try contradiction)
      | (with_reducible refine WR.br (fun _ => ?_) (fun _ => ?_) <;> try contradiction)
      | refine WR.gIk rfl (by assumption) (by with_reducible assumption) ?_
      | refine WR.gI rfl (by assumption) ?_
      | refine WR.gR rfl (by assumption) (by assumption) ?_
      | refine WR.gN rfl (by assumption) (by assumption) ?_
      | refine WR.gL rfl (by assumption) ?_
      | refine WR.addn rfl (by with_reducible rfl) (by with_reducible rfl) ?_
      | refine WR.muln rfl (by with_reducible rfl) (by with_reducible rfl) ?_
      | refine WR.subn rfl (by with_reducible rfl) (by with_reducible rfl) (by omega) ?_
      | (refine WR.incn rfl rfl ?_; dsimp only [List.set])
      | (refine WR.decn rfl rfl ?_; dsimp only [List.set])
      | (refine WR.go rfl rfl ?_; try dsimp only [List.set])
      | refine WR.aIk rfl (by assumption) rfl (by first | with_reducible rfl | with_reducible assumption) (by omega) (by with_reducible assumption) ?_
      | refine WR.aI rfl (by assumption) rfl (by first | with_reducible rfl | with_reducible assumption) (by omega) ?_
      | refine WR.sI rfl (by assumption) rfl (by first | with_reducible rfl | with_reducible assumption) (by omega) ?_
      | refine WR.pI rfl (by assumption) ?_
      | refine WR.rt rfl rfl rfl rfl ?_
      | refine WR.rz rfl rfl (by decide) ?_)
    exact ⟨rfl, rfl⟩
  · rename_i h
    rw [h]
    have h' := c_sl_t.mp h
    repeat' (first
      | (with_reducible refine WR.lt (by omega) (by omega) (fun _ => ?_) (fun _ => ?_) <;> try (exfalso; omega))
      | (with_reducible refine WR.le (by omega) (by omega) (fun _ => ?_) (fun _ => ?_) <;> try (exfalso; omega))
      | (with_reducible refine WR.eq (by omega) (by omega) (fun _ => ?_) (fun _ => ?_) <;> try (exfalso; omega))
      | (with_reducible refine WR.ne (by omega) (by omega) (fun _ => ?_) (fun _ => ?_) <;> try (exfalso; omega))
      | with_reducible refine WR.lt0 (by omega) ?_
      | with_reducible refine WR.ge0 (by omega) ?_
      | (with_reducible refine WR.bz (fun _ => ?_) (fun _ => ?_) <;> try contradiction)
      | (with_reducible refine WR.bn (fun _ => ?_) (fun _ => ?_) <;> try contradiction)
      | (with_reducible refine WR.br (fun _ => ?_) (fun _ => ?_) <;> try contradiction)
      | refine WR.gIk rfl (by assumption) (by with_reducible assumption) ?_
      | refine WR.gI rfl (by assumption) ?_
      | refine WR.gR rfl (by assumption) (by assumption) ?_
      | refine WR.gN rfl (by assumption) (by assumption) ?_
      | refine WR.gL rfl (by assumption) ?_
      | refine WR.addn rfl (by with_reducible rfl) (by with_reducible rfl) ?_
      | refine WR.muln rfl (by with_reducible rfl) (by with_reducible rfl) ?_
      | refine WR.subn rfl (by with_reducible rfl) (by with_reducible rfl) (by omega) ?_
      | (refine WR.incn rfl rfl ?_; dsimp only [List.set])
      | (refine WR.decn rfl rfl ?_; dsimp only [List.set])
      | (refine WR.go rfl rfl ?_; try dsimp only [List.set])
      | refine WR.aIk rfl (by assumption) rfl (by first | with_reducible rfl | with_reducible assumption) (by omega) (by with_reducible assumption) ?_
      | refine WR.aI rfl (by assumption) rfl (by first | with_reducible rfl | with_reducible assumption) (by omega) ?_
      | refine WR.sI rfl (by assumption) rfl (by first | with_reducible rfl | with_reducible assumption) (by omega) ?_
      | refine WR.pI rfl (by assumption) ?_
      | refine WR.rt rfl rfl rfl rfl ?_
      | refine WR.rz rfl rfl (by decide) ?_)
    exact ⟨rfl, rfl⟩
set_option maxHeartbeats 1000000 in
theorem k_cput (d : Nat) (I : xI) {k s : Nat} (c : Int32) (hs : s < 2 ^ 31) (hv : cmK Z k) : ER Z (d + 2) 14 I [.ref k, .int (nI s), .int c] (fun I' w => I' = c_cp I k s c ∧ w = none) := by
  obtain ⟨v1, v2, v3⟩ := hv
  refine ER.of (ls := [some (.ref k), some (.int (nI s)), some (.int c)]) rfl rfl ?_
  iterate 1 (first
      | (with_reducible refine WR.lt (by omega) (by omega) (fun _ => ?_) (fun _ => ?_) <;> try (exfalso; omega))
      | (with_reducible refine WR.le (by omega) (by omega) (fun _ => ?_) (fun _ => ?_) <;> try (exfalso; omega))
      | (with_reducible refine WR.eq (by omega) (by omega) (fun _ => ?_) (fun _ => ?_) <;> try (exfalso; omega))
      | (with_reducible refine WR.ne (by omega) (by omega) (fun _ => ?_) (fun _ => ?_) <;> try (exfalso; omega))
      | with_reducible refine WR.lt0 (by omega) ?_
      | with_reducible refine WR.ge0 (by omega) ?_
      | (with_reducible refine WR.bz (fun _ => ?_) (fun _ => ?_) <;> try contradiction)
      | (with_reducible refine WR.bn (fun _ => ?_) (fun _ => ?_) <;> try contradiction)
      | (with_reducible refine WR.br (fun _ => ?_) (fun _ => ?_) <;> try contradiction)
      | refine WR.gIk rfl (by assumption) (by with_reducible assumption) ?_
      | refine WR.gI rfl (by assumption) ?_
      | refine WR.gR rfl (by assumption) (by assumption) ?_
      | refine WR.gN rfl (by assumption) (by assumption) ?_
      | refine WR.gL rfl (by assumption) ?_
      | refine WR.addn rfl (by with_reducible rfl) (by with_reducible rfl) ?_
      | refine WR.muln rfl (by with_reducible rfl) (by with_reducible rfl) ?_
      | refine WR.subn rfl (by with_reducible rfl) (by with_reducible rfl) (by omega) ?_
      | (refine WR.incn rfl rfl ?_; dsimp only [List.set])
      | (refine WR.decn rfl rfl ?_; dsimp only [List.set])
      | (refine WR.go rfl rfl ?_; try dsimp only [List.set])
      | refine WR.aIk rfl (by assumption) rfl (by first | with_reducible rfl | with_reducible assumption) (by omega) (by with_reducible assumption) ?_
      | refine WR.aI rfl (by assumption) rfl (by first | with_reducible rfl | with_reducible assumption) (by omega) ?_
      | refine WR.sI rfl (by assumption) rfl (by first | with_reducible rfl | with_reducible assumption) (by omega) ?_
      | refine WR.pI rfl (by assumption) ?_
      | refine WR.rt rfl rfl rfl rfl ?_
      | refine WR.rz rfl rfl (by decide) ?_)
  refine WR.S1i rfl rfl (k_slot d I hs) ?_
  rw [c_cp]
  iterate 2 (first
      | (with_reducible refine WR.lt (by omega) (by omega) (fun _ => ?_) (fun _ => ?_) <;> try (exfalso; omega))
      | (with_reducible refine WR.le (by omega) (by omega) (fun _ => ?_) (fun _ => ?_) <;> try (exfalso; omega))
      | (with_reducible refine WR.eq (by omega) (by omega) (fun _ => ?_) (fun _ => ?_) <;> try (exfalso; omega))
      | (with_reducible refine WR.ne (by omega) (by omega) (fun _ => ?_) (fun _ => ?_) <;> try (exfalso; omega))
      | with_reducible refine WR.lt0 (by omega) ?_
      | with_reducible refine WR.ge0 (by omega) ?_
      | (with_reducible refine WR.bz (fun _ => ?_) (fun _ => ?_) <;> try contradiction)
      | (with_reducible refine WR.bn (fun _ => ?_) (fun _ => ?_) <;> try contradiction)
      | (with_reducible refine WR.br (fun _ => ?_) (fun _ => ?_) <;> try contradiction)
      | refine WR.gIk rfl (by assumption) (by with_reducible assumption) ?_
      | refine WR.gI rfl (by assumption) ?_
      | refine WR.gR rfl (by assumption) (by assumption) ?_
      | refine WR.gN rfl (by assumption) (by assumption) ?_
      | refine WR.gL rfl (by assumption) ?_
      | refine WR.addn rfl (by with_reducible rfl) (by with_reducible rfl) ?_
      | refine WR.muln rfl (by with_reducible rfl) (by with_reducible rfl) ?_
      | refine WR.subn rfl (by with_reducible rfl) (by with_reducible rfl) (by omega) ?_
      | (refine WR.incn rfl rfl ?_; dsimp only [List.set])
      | (refine WR.decn rfl rfl ?_; dsimp only [List.set])
      | (refine WR.go rfl rfl ?_; try dsimp only [List.set])
      | refine WR.aIk rfl (by assumption) rfl (by first | with_reducible rfl | with_reducible assumption) (by omega) (by with_reducible assumption) ?_
      | refine WR.aI rfl (by assumption) rfl (by first | with_reducible rfl | with_reducible assumption) (by omega) ?_
      | refine WR.sI rfl (by assumption) rfl (by first | with_reducible rfl | with_reducible assumption) (by omega) ?_
      | refine WR.pI rfl (by assumption) ?_
      | refine WR.rt rfl rfl rfl rfl ?_
      | refine WR.rz rfl rfl (by decide) ?_)
  · rename_i h
    rw [h]
    repeat' (first
      | (with_reducible refine WR.lt (by omega) (by omega) (fun _ => ?_) (fun _ => ?_) <;> try (exfalso; omega))
      | (with_reducible refine WR.le (by omega) (by omega) (fun _ => ?_) (fun _ => ?_) <;> try (exfalso; omega))
      | (with_reducible refine WR.eq (by omega) (by omega) (fun _ => ?_) (fun _ => ?_) <;> try (exfalso; omega))
      | (with_reducible refine WR.ne (by omega) (by omega) (fun _ => ?_) (fun _ => ?_) <;> try (exfalso; omega))
      | with_reducible refine WR.lt0 (by omega) ?_
      | with_reducible refine WR.ge0 (by omega) ?_
      | (with_reducible refine WR.bz (fun _ => ?_) (fun _ => ?_) <;> try contradiction)
      | (with_reducible refine WR.bn (fun _ => ?_) (fun _ => ?_) <;> try contradiction)
      | (with_reducible refine WR.br (fun _ => ?_) (fun _ => ?_) <;> try contradiction)
      | refine WR.gIk rfl (by assumption) (by with_reducible assumption) ?_
      | refine WR.gI rfl (by assumption) ?_
      | refine WR.gR rfl (by assumption) (by assumption) ?_
      | refine WR.gN rfl (by assumption) (by assumption) ?_
      | refine WR.gL rfl (by assumption) ?_
      | refine WR.addn rfl (by with_reducible rfl) (by with_reducible rfl) ?_
      | refine WR.muln rfl (by with_reducible rfl) (by with_reducible rfl) ?_
      | refine WR.subn rfl (by with_reducible rfl) (by with_reducible rfl) (by omega) ?_
      | (refine WR.incn rfl rfl ?_; dsimp only [List.set])
      | (refine WR.decn rfl rfl ?_; dsimp only [List.set])
      | (refine WR.go rfl rfl ?_; try dsimp only [List.set])
      | refine WR.aIk rfl (by assumption) rfl (by first | with_reducible rfl | with_reducible assumption) (by omega) (by with_reducible assumption) ?_
      | refine WR.aI rfl (by assumption) rfl (by first | with_reducible rfl | with_reducible assumption) (by omega) ?_
      | refine WR.sI rfl (by assumption) rfl (by first | with_reducible rfl | with_reducible assumption) (by omega) ?_
      | refine WR.pI rfl (by assumption) ?_
      | refine WR.rt rfl rfl rfl rfl ?_
      | refine WR.rz rfl rfl (by decide) ?_)
    exact ⟨rfl, rfl⟩
  · rename_i h
    rw [h]
    have h' := c_sl_t.mp h
    repeat' (first
      | (with_reducible refine WR.lt (by omega) (by omega) (fun _ => ?_) (fun _ => ?_) <;> try (exfalso; omega))
      | (with_reducible refine WR.le (by omega) (by omega) (fun _ => ?_) (fun _ => ?_) <;> try (exfalso; omega))
      | (with_reducible refine WR.eq (by omega) (by omega) (fun _ => ?_) (fun _ => ?_) <;> try (exfalso; omega))
      | (with_reducible refine WR.ne (by omega) (by omega) (fun _ => ?_) (fun _ => ?_) <;> try (exfalso; omega))
      | with_reducible refine WR.lt0 (by omega) ?_
      | with_reducible refine WR.ge0 (by omega) ?_
      | (with_reducible refine WR.bz (fun _ => ?_) (fun _ => ?_) <;> try contradiction)
      | (with_reducible refine WR.bn (fun _ => ?_) (fun _ => ?_) <;> try contradiction)
      | (with_reducible refine WR.br (fun _ => ?_) (fun _ => ?_) <;> try contradiction)
      | refine WR.gIk rfl (by assumption) (by with_reducible assumption) ?_
      | refine WR.gI rfl (by assumption) ?_
      | refine WR.gR rfl (by assumption) (by assumption) ?_
      | refine WR.gN rfl (by assumption) (by assumption) ?_
      | refine WR.gL rfl (by assumption) ?_
      | refine WR.addn rfl (by with_reducible rfl) (by with_reducible rfl) ?_
      | refine WR.muln rfl (by with_reducible rfl) (by with_reducible rfl) ?_
      | refine WR.subn rfl (by with_reducible rfl) (by with_reducible rfl) (by omega) ?_
      | (refine WR.incn rfl rfl ?_; dsimp only [List.set])
      | (refine WR.decn rfl rfl ?_; dsimp only [List.set])
      | (refine WR.go rfl rfl ?_; try dsimp only [List.set])
      | refine WR.aIk rfl (by assumption) rfl (by first | with_reducible rfl | with_reducible assumption) (by omega) (by with_reducible assumption) ?_
      | refine WR.aI rfl (by assumption) rfl (by first | with_reducible rfl | with_reducible assumption) (by omega) ?_
      | refine WR.sI rfl (by assumption) rfl (by first | with_reducible rfl | with_reducible assumption) (by omega) ?_
      | refine WR.pI rfl (by assumption) ?_
      | refine WR.rt rfl rfl rfl rfl ?_
      | refine WR.rz rfl rfl (by decide) ?_)
    exact ⟨rfl, rfl⟩
end VOTE
