/-! the reference's small methods -/
theorem nI_one : nI 1 = 1 := rfl
theorem nI_zero : nI 0 = 0 := rfl
def bI (b : Bool) : Int32 := match b with
  | true => 1
  | false => 0
theorem bI_01 (b : Bool) : bI b = 0 ∨ bI b = 1 := by cases b <;> simp [bI]
theorem bI_0 {b : Bool} : bI b = 0 ↔ b = false := by cases b <;> simp [bI]
theorem bI_1 {b : Bool} : bI b = 1 ↔ b = true := by cases b <;> simp [bI]
theorem bI_n {b : Bool} : ¬ bI b = 0 ↔ b = true := by cases b <;> simp [bI]
theorem i_lt_ge {x y : Int32} (h : x < y) : decide (y ≤ x) = false := by simp [Int32.not_le, h]
theorem i_le_gt {x y : Int32} (h : x ≤ y) : decide (y < x) = false := by simp [Int32.not_lt, h]
theorem i_nlt {x y : Int32} (h : ¬ x < y) : decide (y ≤ x) = true := by simp [Int32.not_lt.mp h]
theorem i_nle {x y : Int32} (h : ¬ x ≤ y) : decide (y < x) = true := by simp [Int32.not_le.mp h]
def f_cnt (x : Int32) : Int32 := nI 0 + (x >>> (nI 0 &&& 31) &&& nI 1) + (x >>> (nI 1 &&& 31) &&& nI 1) + (x >>> (nI 2 &&& 31) &&& nI 1) + (x >>> (nI 3 &&& 31) &&& nI 1) + (x >>> (nI 4 &&& 31) &&& nI 1)
def f_maj (x y : Int32) : Bool := decide (f_cnt y < nI 2 * f_cnt (x &&& y))
def f_rep (x : Int32) : Bool := decide (0 ≤ x) && decide (x < nI 5)
def f_camp (I : xI) (r : Nat) : Bool := decide (0 < I 87 r) && decide (I 87 r = I 81 r)
def f_bit (x y : Int32) : Bool := decide (x >>> (y &&& 31) &&& nI 1 = nI 1)
def f_know (I : xI) (r s : Nat) : Bool := f_bit (I 84 r) (nI s)
section REFT
variable {Z : xZ}
set_option maxHeartbeats 1000000 in
theorem r_replica (d : Nat) (I : xI) (x : Int32) (hz : zok Z) : ER Z (d + 1) 99 I [.int x] (fun I' v => I' = I ∧ v = some (.int (bI (f_rep x)))) := by
  refine ER.of (ls := [some (.int x)]) rfl rfl ?_
  repeat' (first
      | (with_reducible refine WR.lt (by omega) (by omega) (fun _ => ?_) (fun _ => ?_) <;> try (exfalso; omega))
      | (with_reducible refine WR.le (by omega) (by omega) (fun _ => ?_) (fun _ => ?_) <;> try (exfalso; omega))
      | (with_reducible refine WR.eq (by omega) (by omega) (fun _ => ?_) (fun _ => ?_) <;> try (exfalso; omega))
      | (with_reducible refine WR.ne (by omega) (by omega) (fun _ => ?_) (fun _ => ?_) <;> try (exfalso; omega))
      | with_reducible refine WR.lt0 (by omega) ?_
      | with_reducible refine WR.ge0 (by omega) ?_
      | with_reducible refine WR.br (fun _ => ?_) (fun _ => ?_)
      | refine WR.gi hz rfl ?_
      | refine WR.gr hz rfl rfl ?_
      | refine WR.addn rfl (by with_reducible rfl) (by with_reducible rfl) ?_
      | refine WR.muln rfl (by with_reducible rfl) (by with_reducible rfl) ?_
      | (refine WR.incn rfl rfl ?_; dsimp only [List.set])
      | (refine WR.go rfl rfl ?_; try dsimp only [List.set])
      | refine WR.ai hz rfl rfl rfl rfl (by with_reducible rfl) (by omega) ?_
      | refine WR.si hz rfl rfl rfl rfl (by with_reducible rfl) (by omega) ?_
      | refine WR.az hz rfl rfl rfl rfl (by with_reducible rfl) (by omega) ?_
      | refine WR.sz hz rfl rfl rfl rfl (by with_reducible rfl) (by omega) (by decide) ?_
      | refine WR.pi hz rfl ?_
      | refine WR.rt rfl rfl rfl rfl ?_
      | refine WR.rz rfl rfl (by decide) ?_)
  · rename_i h; exact ⟨rfl, by simp [f_rep, i_lt_ge h, bI]; rfl⟩
  · rename_i h; exact ⟨rfl, by simp [f_rep, i_le_gt h, bI]; rfl⟩
  · rename_i h1 h2; exact ⟨rfl, by simp [f_rep, i_nlt h1, i_nle h2, bI]; rfl⟩
set_option maxHeartbeats 1000000 in
theorem r_count (d : Nat) (I : xI) (x : Int32) (hz : zok Z) : ER Z (d + 1) 97 I [.int x] (fun I' v => I' = I ∧ v = some (.int (f_cnt x))) := by
  refine ER.of (ls := [some (.int x), none, none]) rfl rfl ?_
  repeat' (first
      | (with_reducible refine WR.lt (by omega) (by omega) (fun _ => ?_) (fun _ => ?_) <;> try (exfalso; omega))
      | (with_reducible refine WR.le (by omega) (by omega) (fun _ => ?_) (fun _ => ?_) <;> try (exfalso; omega))
      | (with_reducible refine WR.eq (by omega) (by omega) (fun _ => ?_) (fun _ => ?_) <;> try (exfalso; omega))
      | (with_reducible refine WR.ne (by omega) (by omega) (fun _ => ?_) (fun _ => ?_) <;> try (exfalso; omega))
      | with_reducible refine WR.lt0 (by omega) ?_
      | with_reducible refine WR.ge0 (by omega) ?_
      | with_reducible refine WR.br (fun _ => ?_) (fun _ => ?_)
      | refine WR.gi hz rfl ?_
      | refine WR.gr hz rfl rfl ?_
      | refine WR.addn rfl (by with_reducible rfl) (by with_reducible rfl) ?_
      | refine WR.muln rfl (by with_reducible rfl) (by with_reducible rfl) ?_
      | (refine WR.incn rfl rfl ?_; dsimp only [List.set])
      | (refine WR.go rfl rfl ?_; try dsimp only [List.set])
      | refine WR.ai hz rfl rfl rfl rfl (by with_reducible rfl) (by omega) ?_
      | refine WR.si hz rfl rfl rfl rfl (by with_reducible rfl) (by omega) ?_
      | refine WR.az hz rfl rfl rfl rfl (by with_reducible rfl) (by omega) ?_
      | refine WR.sz hz rfl rfl rfl rfl (by with_reducible rfl) (by omega) (by decide) ?_
      | refine WR.pi hz rfl ?_
      | refine WR.rt rfl rfl rfl rfl ?_
      | refine WR.rz rfl rfl (by decide) ?_)
  exact ⟨rfl, rfl⟩
set_option maxHeartbeats 1000000 in
theorem r_majority (d : Nat) (I : xI) (x y : Int32) (hz : zok Z) : ER Z (d + 2) 107 I [.int x, .int y] (fun I' v => I' = I ∧ v = some (.int (bI (f_maj x y)))) := by
  refine ER.of (ls := [some (.int x), some (.int y)]) rfl rfl ?_
  repeat' (first
      | (with_reducible refine WR.lt (by omega) (by omega) (fun _ => ?_) (fun _ => ?_) <;> try (exfalso; omega))
      | (with_reducible refine WR.le (by omega) (by omega) (fun _ => ?_) (fun _ => ?_) <;> try (exfalso; omega))
      | (with_reducible refine WR.eq (by omega) (by omega) (fun _ => ?_) (fun _ => ?_) <;> try (exfalso; omega))
      | (with_reducible refine WR.ne (by omega) (by omega) (fun _ => ?_) (fun _ => ?_) <;> try (exfalso; omega))
      | with_reducible refine WR.lt0 (by omega) ?_
      | with_reducible refine WR.ge0 (by omega) ?_
      | with_reducible refine WR.br (fun _ => ?_) (fun _ => ?_)
      | refine WR.gi hz rfl ?_
      | refine WR.gr hz rfl rfl ?_
      | refine WR.addn rfl (by with_reducible rfl) (by with_reducible rfl) ?_
      | refine WR.muln rfl (by with_reducible rfl) (by with_reducible rfl) ?_
      | (refine WR.incn rfl rfl ?_; dsimp only [List.set])
      | (refine WR.go rfl rfl ?_; try dsimp only [List.set])
      | refine WR.ai hz rfl rfl rfl rfl (by with_reducible rfl) (by omega) ?_
      | refine WR.si hz rfl rfl rfl rfl (by with_reducible rfl) (by omega) ?_
      | refine WR.az hz rfl rfl rfl rfl (by with_reducible rfl) (by omega) ?_
      | refine WR.sz hz rfl rfl rfl rfl (by with_reducible rfl) (by omega) (by decide) ?_
      | refine WR.pi hz rfl ?_
      | refine WR.rt rfl rfl rfl rfl ?_
      | refine WR.rz rfl rfl (by decide) ?_)
  refine WR.S1i rfl rfl (r_count _ _ _ hz) ?_
  repeat' (first
      | (with_reducible refine WR.lt (by omega) (by omega) (fun _ => ?_) (fun _ => ?_) <;> try (exfalso; omega))
      | (with_reducible refine WR.le (by omega) (by omega) (fun _ => ?_) (fun _ => ?_) <;> try (exfalso; omega))
      | (with_reducible refine WR.eq (by omega) (by omega) (fun _ => ?_) (fun _ => ?_) <;> try (exfalso; omega))
      | (with_reducible refine WR.ne (by omega) (by omega) (fun _ => ?_) (fun _ => ?_) <;> try (exfalso; omega))
      | with_reducible refine WR.lt0 (by omega) ?_
      | with_reducible refine WR.ge0 (by omega) ?_
      | with_reducible refine WR.br (fun _ => ?_) (fun _ => ?_)
      | refine WR.gi hz rfl ?_
      | refine WR.gr hz rfl rfl ?_
      | refine WR.addn rfl (by with_reducible rfl) (by with_reducible rfl) ?_
      | refine WR.muln rfl (by with_reducible rfl) (by with_reducible rfl) ?_
      | (refine WR.incn rfl rfl ?_; dsimp only [List.set])
      | (refine WR.go rfl rfl ?_; try dsimp only [List.set])
      | refine WR.ai hz rfl rfl rfl rfl (by with_reducible rfl) (by omega) ?_
      | refine WR.si hz rfl rfl rfl rfl (by with_reducible rfl) (by omega) ?_
      | refine WR.az hz rfl rfl rfl rfl (by with_reducible rfl) (by omega) ?_
      | refine WR.sz hz rfl rfl rfl rfl (by with_reducible rfl) (by omega) (by decide) ?_
      | refine WR.pi hz rfl ?_
      | refine WR.rt rfl rfl rfl rfl ?_
      | refine WR.rz rfl rfl (by decide) ?_)
  refine WR.S1i rfl rfl (r_count _ _ _ hz) ?_
  repeat' (first
      | (with_reducible refine WR.lt (by omega) (by omega) (fun _ => ?_) (fun _ => ?_) <;> try (exfalso; omega))
      | (with_reducible refine WR.le (by omega) (by omega) (fun _ => ?_) (fun _ => ?_) <;> try (exfalso; omega))
      | (with_reducible refine WR.eq (by omega) (by omega) (fun _ => ?_) (fun _ => ?_) <;> try (exfalso; omega))
      | (with_reducible refine WR.ne (by omega) (by omega) (fun _ => ?_) (fun _ => ?_) <;> try (exfalso; omega))
      | with_reducible refine WR.lt0 (by omega) ?_
      | with_reducible refine WR.ge0 (by omega) ?_
      | with_reducible refine WR.br (fun _ => ?_) (fun _ => ?_)
      | refine WR.gi hz rfl ?_
      | refine WR.gr hz rfl rfl ?_
      | refine WR.addn rfl (by with_reducible rfl) (by with_reducible rfl) ?_
      | refine WR.muln rfl (by with_reducible rfl) (by with_reducible rfl) ?_
      | (refine WR.incn rfl rfl ?_; dsimp only [List.set])
      | (refine WR.go rfl rfl ?_; try dsimp only [List.set])
      | refine WR.ai hz rfl rfl rfl rfl (by with_reducible rfl) (by omega) ?_
      | refine WR.si hz rfl rfl rfl rfl (by with_reducible rfl) (by omega) ?_
      | refine WR.az hz rfl rfl rfl rfl (by with_reducible rfl) (by omega) ?_
      | refine WR.sz hz rfl rfl rfl rfl (by with_reducible rfl) (by omega) (by decide) ?_
      | refine WR.pi hz rfl ?_
      | refine WR.rt rfl rfl rfl rfl ?_
      | refine WR.rz rfl rfl (by decide) ?_)
  · rename_i h; exact ⟨rfl, by simp [f_maj, i_le_gt h, bI]; rfl⟩
  · rename_i h; exact ⟨rfl, by simp [f_maj, i_nle h, bI]; rfl⟩
set_option maxHeartbeats 1000000 in
theorem r_isUp (d : Nat) (I : xI) (x : Int32) (hz : zok Z) : ER Z (d + 2) 100 I [.ref 74, .int x] (fun I' v => I' = I ∧ v = some (.int (bI (f_rep x && f_bit (I 74 7) x)))) := by
  refine ER.of (ls := [some (.ref 74), some (.int x)]) rfl rfl ?_
  repeat' (first
      | (with_reducible refine WR.lt (by omega) (by omega) (fun _ => ?_) (fun _ => ?_) <;> try (exfalso; omega))
      | (with_reducible refine WR.le (by omega) (by omega) (fun _ => ?_) (fun _ => ?_) <;> try (exfalso; omega))
      | (with_reducible refine WR.eq (by omega) (by omega) (fun _ => ?_) (fun _ => ?_) <;> try (exfalso; omega))
      | (with_reducible refine WR.ne (by omega) (by omega) (fun _ => ?_) (fun _ => ?_) <;> try (exfalso; omega))
      | with_reducible refine WR.lt0 (by omega) ?_
      | with_reducible refine WR.ge0 (by omega) ?_
      | with_reducible refine WR.br (fun _ => ?_) (fun _ => ?_)
      | refine WR.gi hz rfl ?_
      | refine WR.gr hz rfl rfl ?_
      | refine WR.addn rfl (by with_reducible rfl) (by with_reducible rfl) ?_
      | refine WR.muln rfl (by with_reducible rfl) (by with_reducible rfl) ?_
      | (refine WR.incn rfl rfl ?_; dsimp only [List.set])
      | (refine WR.go rfl rfl ?_; try dsimp only [List.set])
      | refine WR.ai hz rfl rfl rfl rfl (by with_reducible rfl) (by omega) ?_
      | refine WR.si hz rfl rfl rfl rfl (by with_reducible rfl) (by omega) ?_
      | refine WR.az hz rfl rfl rfl rfl (by with_reducible rfl) (by omega) ?_
      | refine WR.sz hz rfl rfl rfl rfl (by with_reducible rfl) (by omega) (by decide) ?_
      | refine WR.pi hz rfl ?_
      | refine WR.rt rfl rfl rfl rfl ?_
      | refine WR.rz rfl rfl (by decide) ?_)
  refine WR.S1i rfl rfl (r_replica _ _ _ hz) ?_
  repeat' (first
      | (with_reducible refine WR.lt (by omega) (by omega) (fun _ => ?_) (fun _ => ?_) <;> try (exfalso; omega))
      | (with_reducible refine WR.le (by omega) (by omega) (fun _ => ?_) (fun _ => ?_) <;> try (exfalso; omega))
      | (with_reducible refine WR.eq (by omega) (by omega) (fun _ => ?_) (fun _ => ?_) <;> try (exfalso; omega))
      | (with_reducible refine WR.ne (by omega) (by omega) (fun _ => ?_) (fun _ => ?_) <;> try (exfalso; omega))
      | with_reducible refine WR.lt0 (by omega) ?_
      | with_reducible refine WR.ge0 (by omega) ?_
      | with_reducible refine WR.br (fun _ => ?_) (fun _ => ?_)
      | refine WR.gi hz rfl ?_
      | refine WR.gr hz rfl rfl ?_
      | refine WR.addn rfl (by with_reducible rfl) (by with_reducible rfl) ?_
      | refine WR.muln rfl (by with_reducible rfl) (by with_reducible rfl) ?_
      | (refine WR.incn rfl rfl ?_; dsimp only [List.set])
      | (refine WR.go rfl rfl ?_; try dsimp only [List.set])
      | refine WR.ai hz rfl rfl rfl rfl (by with_reducible rfl) (by omega) ?_
      | refine WR.si hz rfl rfl rfl rfl (by with_reducible rfl) (by omega) ?_
      | refine WR.az hz rfl rfl rfl rfl (by with_reducible rfl) (by omega) ?_
      | refine WR.sz hz rfl rfl rfl rfl (by with_reducible rfl) (by omega) (by decide) ?_
      | refine WR.pi hz rfl ?_
      | refine WR.rt rfl rfl rfl rfl ?_
      | refine WR.rz rfl rfl (by decide) ?_)
  · rename_i h; rw [bI_0] at h; exact ⟨rfl, by simp [h, bI]; rfl⟩
  · rename_i h1 h2; exact ⟨rfl, by simp [f_bit, h2, bI]; rfl⟩
  · rename_i h1 h2; rw [bI_n] at h1; exact ⟨rfl, by simp [f_bit, h1, Classical.not_not.mp h2, bI]; rfl⟩
set_option maxHeartbeats 1000000 in
theorem r_campaigns (d : Nat) (I : xI) {r : Nat} (hr : r < 5) (hz : zok Z) : ER Z (d + 1) 104 I [.ref 74, .int (nI r)] (fun I' v => I' = I ∧ v = some (.int (bI (f_camp I r)))) := by
  refine ER.of (ls := [some (.ref 74), some (.int (nI r))]) rfl rfl ?_
  repeat' (first
      | (with_reducible refine WR.lt (by omega) (by omega) (fun _ => ?_) (fun _ => ?_) <;> try (exfalso; omega))
      | (with_reducible refine WR.le (by omega) (by omega) (fun _ => ?_) (fun _ => ?_) <;> try (exfalso; omega))
      | (with_reducible refine WR.eq (by omega) (by omega) (fun _ => ?_) (fun _ => ?_) <;> try (exfalso; omega))
      | (with_reducible refine WR.ne (by omega) (by omega) (fun _ => ?_) (fun _ => ?_) <;> try (exfalso; omega))
      | with_reducible refine WR.lt0 (by omega) ?_
      | with_reducible refine WR.ge0 (by omega) ?_
      | with_reducible refine WR.br (fun _ => ?_) (fun _ => ?_)
      | refine WR.gi hz rfl ?_
      | refine WR.gr hz rfl rfl ?_
      | refine WR.addn rfl (by with_reducible rfl) (by with_reducible rfl) ?_
      | refine WR.muln rfl (by with_reducible rfl) (by with_reducible rfl) ?_
      | (refine WR.incn rfl rfl ?_; dsimp only [List.set])
      | (refine WR.go rfl rfl ?_; try dsimp only [List.set])
      | refine WR.ai hz rfl rfl rfl rfl (by with_reducible rfl) (by omega) ?_
      | refine WR.si hz rfl rfl rfl rfl (by with_reducible rfl) (by omega) ?_
      | refine WR.az hz rfl rfl rfl rfl (by with_reducible rfl) (by omega) ?_
      | refine WR.sz hz rfl rfl rfl rfl (by with_reducible rfl) (by omega) (by decide) ?_
      | refine WR.pi hz rfl ?_
      | refine WR.rt rfl rfl rfl rfl ?_
      | refine WR.rz rfl rfl (by decide) ?_)
  · rename_i h; exact ⟨rfl, by simp [f_camp, i_le_gt h, bI]; rfl⟩
  · rename_i h1 h2; exact ⟨rfl, by simp [f_camp, h2, bI]; rfl⟩
  · rename_i h1 h2; exact ⟨rfl, by have h3 := i_nle h1; rw [Classical.not_not.mp h2] at h3; simp [f_camp, Classical.not_not.mp h2, h3, bI]; rfl⟩
set_option maxHeartbeats 1000000 in
theorem r_knows (d : Nat) (I : xI) {r : Nat} (s : Nat) (hr : r < 5) (hz : zok Z) : ER Z (d + 1) 105 I [.ref 74, .int (nI r), .int (nI s)] (fun I' v => I' = I ∧ v = some (.int (bI (f_know I r s)))) := by
  refine ER.of (ls := [some (.ref 74), some (.int (nI r)), some (.int (nI s))]) rfl rfl ?_
  repeat' (first
      | (with_reducible refine WR.lt (by omega) (by omega) (fun _ => ?_) (fun _ => ?_) <;> try (exfalso; omega))
      | (with_reducible refine WR.le (by omega) (by omega) (fun _ => ?_) (fun _ => ?_) <;> try (exfalso; omega))
      | (with_reducible refine WR.eq (by omega) (by omega) (fun _ => ?_) (fun _ => ?_) <;> try (exfalso; omega))
      | (with_reducible refine WR.ne (by omega) (by omega) (fun _ => ?_) (fun _ => ?_) <;> try (exfalso; omega))
      | with_reducible refine WR.lt0 (by omega) ?_
      | with_reducible refine WR.ge0 (by omega) ?_
      | with_reducible refine WR.br (fun _ => ?_) (fun _ => ?_)
      | refine WR.gi hz rfl ?_
      | refine WR.gr hz rfl rfl ?_
      | refine WR.addn rfl (by with_reducible rfl) (by with_reducible rfl) ?_
      | refine WR.muln rfl (by with_reducible rfl) (by with_reducible rfl) ?_
      | (refine WR.incn rfl rfl ?_; dsimp only [List.set])
      | (refine WR.go rfl rfl ?_; try dsimp only [List.set])
      | refine WR.ai hz rfl rfl rfl rfl (by with_reducible rfl) (by omega) ?_
      | refine WR.si hz rfl rfl rfl rfl (by with_reducible rfl) (by omega) ?_
      | refine WR.az hz rfl rfl rfl rfl (by with_reducible rfl) (by omega) ?_
      | refine WR.sz hz rfl rfl rfl rfl (by with_reducible rfl) (by omega) (by decide) ?_
      | refine WR.pi hz rfl ?_
      | refine WR.rt rfl rfl rfl rfl ?_
      | refine WR.rz rfl rfl (by decide) ?_)
  · rename_i h; exact ⟨rfl, by simp [f_know, f_bit, h, bI]; rfl⟩
  · rename_i h; exact ⟨rfl, by simp [f_know, f_bit, Classical.not_not.mp h, bI]; rfl⟩
def f_hear (I : xI) (q : Nat) : xI := x_u (x_u I 78 q (I 78 q + nI 1)) 79 q (I 106 q)
set_option maxHeartbeats 1000000 in
theorem r_hear (d : Nat) (I : xI) {q : Nat} (hq : q < 41) (hz : zok Z) : ER Z (d + 1) 103 I [.ref 74, .int (nI q)] (fun I' v => I' = f_hear I q ∧ v = none) := by
  refine ER.of (ls := [some (.ref 74), some (.int (nI q))]) rfl rfl ?_
  repeat' (first
      | (with_reducible refine WR.lt (by omega) (by omega) (fun _ => ?_) (fun _ => ?_) <;> try (exfalso; omega))
      | (with_reducible refine WR.le (by omega) (by omega) (fun _ => ?_) (fun _ => ?_) <;> try (exfalso; omega))
      | (with_reducible refine WR.eq (by omega) (by omega) (fun _ => ?_) (fun _ => ?_) <;> try (exfalso; omega))
      | (with_reducible refine WR.ne (by omega) (by omega) (fun _ => ?_) (fun _ => ?_) <;> try (exfalso; omega))
      | with_reducible refine WR.lt0 (by omega) ?_
      | with_reducible refine WR.ge0 (by omega) ?_
      | with_reducible refine WR.br (fun _ => ?_) (fun _ => ?_)
      | refine WR.gi hz rfl ?_
      | refine WR.gr hz rfl rfl ?_
      | refine WR.addn rfl (by with_reducible rfl) (by with_reducible rfl) ?_
      | refine WR.muln rfl (by with_reducible rfl) (by with_reducible rfl) ?_
      | (refine WR.incn rfl rfl ?_; dsimp only [List.set])
      | (refine WR.go rfl rfl ?_; try dsimp only [List.set])
      | refine WR.ai hz rfl rfl rfl rfl (by with_reducible rfl) (by omega) ?_
      | refine WR.si hz rfl rfl rfl rfl (by with_reducible rfl) (by omega) ?_
      | refine WR.az hz rfl rfl rfl rfl (by with_reducible rfl) (by omega) ?_
      | refine WR.sz hz rfl rfl rfl rfl (by with_reducible rfl) (by omega) (by decide) ?_
      | refine WR.pi hz rfl ?_
      | refine WR.rt rfl rfl rfl rfl ?_
      | refine WR.rz rfl rfl (by decide) ?_)
  refine ⟨?_, rfl⟩
  simp [f_hear, x_u]
def f_cast (I : xI) (r s : Nat) (b c : Int32) : xI := x_u (x_u I 85 (25 * r + s) b) 86 (25 * r + s) c
set_option maxHeartbeats 1000000 in
theorem r_cast (d : Nat) (I : xI) {r s : Nat} (b c : Int32) (hr : r < 5) (hs : s < 25) (hz : zok Z) : ER Z (d + 1) 109 I [.ref 74, .int (nI r), .int (nI s), .int b, .int c] (fun I' v => I' = f_cast I r s b c ∧ v = none) := by
  refine ER.of (ls := [some (.ref 74), some (.int (nI r)), some (.int (nI s)), some (.int b), some (.int c)]) rfl rfl ?_
  repeat' (first
      | (with_reducible refine WR.lt (by omega) (by omega) (fun _ => ?_) (fun _ => ?_) <;> try (exfalso; omega))
      | (with_reducible refine WR.le (by omega) (by omega) (fun _ => ?_) (fun _ => ?_) <;> try (exfalso; omega))
      | (with_reducible refine WR.eq (by omega) (by omega) (fun _ => ?_) (fun _ => ?_) <;> try (exfalso; omega))
      | (with_reducible refine WR.ne (by omega) (by omega) (fun _ => ?_) (fun _ => ?_) <;> try (exfalso; omega))
      | with_reducible refine WR.lt0 (by omega) ?_
      | with_reducible refine WR.ge0 (by omega) ?_
      | with_reducible refine WR.br (fun _ => ?_) (fun _ => ?_)
      | refine WR.gi hz rfl ?_
      | refine WR.gr hz rfl rfl ?_
      | refine WR.addn rfl (by with_reducible rfl) (by with_reducible rfl) ?_
      | refine WR.muln rfl (by with_reducible rfl) (by with_reducible rfl) ?_
      | (refine WR.incn rfl rfl ?_; dsimp only [List.set])
      | (refine WR.go rfl rfl ?_; try dsimp only [List.set])
      | refine WR.ai hz rfl rfl rfl rfl (by with_reducible rfl) (by omega) ?_
      | refine WR.si hz rfl rfl rfl rfl (by with_reducible rfl) (by omega) ?_
      | refine WR.az hz rfl rfl rfl rfl (by with_reducible rfl) (by omega) ?_
      | refine WR.sz hz rfl rfl rfl rfl (by with_reducible rfl) (by omega) (by decide) ?_
      | refine WR.pi hz rfl ?_
      | refine WR.rt rfl rfl rfl rfl ?_
      | refine WR.rz rfl rfl (by decide) ?_)
  exact ⟨rfl, rfl⟩
end REFT
