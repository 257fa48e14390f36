/-! the class: statics, campaigns, states as they are read, replicas as they are read -/
def i_us (x : Int32) (y : Int32) : Int32 := (x.toUInt32 >>> (y.toUInt32 &&& Int32.toUInt32 31)).toInt32
def i_b1 (x : Int32) : Int32 := x - (i_us x (nI 1) &&& 1431655765)
def i_b2 (x : Int32) : Int32 := (x &&& 858993459) + (i_us x (nI 2) &&& 858993459)
def i_b3 (x : Int32) : Int32 := (x + i_us x (nI 4)) &&& 252645135
def i_b4 (x : Int32) : Int32 := x + i_us x (nI 8)
def i_b5 (x : Int32) : Int32 := x + i_us x (nI 16)
def i_bc (x : Int32) : Int32 := i_b5 (i_b4 (i_b3 (i_b2 (i_b1 x)))) &&& nI 63
theorem i_bc32 : ∀ m, m < 32 → i_bc (nI m) = f_cnt (nI m) := by decide +kernel
theorem i_and {b : Nat} (x : Int32) (hb : b < 32) : ∃ c, c < 32 ∧ x &&& nI b = nI c := by
  refine ⟨x.toBitVec.toNat &&& b, Nat.lt_of_le_of_lt Nat.and_le_right hb, ?_⟩
  rw [← nx_and]
  congr 1
  apply Int32.toBitVec.inj
  apply BitVec.eq_of_toNat_eq
  show x.toBitVec.toNat = x.toBitVec.toNat % 2 ^ 32
  exact (Nat.mod_eq_of_lt x.toBitVec.isLt).symm
def caK (Z : xZ) (c : Nat) : Prop := Z.1[c]? = some (false, 0, 5) ∧ Z.2.2 c 2 = some (c + 1) ∧ Z.2.2 c 3 = some (c + 4) ∧ Z.2.2 c 4 = some (c + 6) ∧ vtK Z (c + 1) ∧ cmK Z (c + 4) ∧ Z.1[c + 6]? = some (true, 0, 25)
def rpK (Z : xZ) (p : Nat) : Prop := Z.1[p]? = some (false, 5, 10) ∧ Z.2.2 p 1 = some 1 ∧ Z.2.2 p 2 = some 3 ∧ Z.2.2 p 5 = some (p + 1) ∧ vtK Z (p + 1) ∧ Z.2.2 p 8 = some (p + 4) ∧ cmK Z (p + 4) ∧ Z.2.2 p 9 = some (p + 6) ∧ caK Z (p + 6)
def stK (Z : xZ) (s : Nat) : Prop := Z.1[s]? = some (false, 7, 7) ∧ Z.2.2 s 1 = some (s + 1) ∧ Z.2.2 s 2 = some (s + 2) ∧ Z.1[s + 1]? = some (true, 0, 4) ∧ Z.1[s + 2]? = some (true, 0, 41)
def c_mo (I : xI) (p f s : Nat) : Int32 := if s = f + 1 then I p 6 else if s = f + 2 then I p 5 else if s = f + 3 then I p 4 else nI 0
def c_dn (D : Int64) (q : Nat) : Bool := decide (1 ≤ q) && decide (q ≤ 40) && decide (D >>> ((nI q).toInt64 &&& 63) &&& lN 1 ≠ lN 0)
def c_an (I : xI) (D : Int64) (p q : Nat) : Int32 := if c_dn D q = true then I (p + 2) q else nI 0
def c_cpr (I : xI) (c s : Nat) (x : Int32) : xI := if c_sl s = true then x_u (x_u I (c + 5) s x) (c + 6) s (nI 0) else I
def c_cav (I : xI) (c s : Nat) (r : Int32) : xI := if c_sl s = true then x_u I (c + 6) s (I (c + 6) s ||| (nI 1 <<< (r &&& 31))) else I
def c_cvf (I : xI) (c s : Nat) : Int32 := if c_sl s = true then I (c + 6) s else nI 0
def c_cbg (I : xI) (c w : Nat) (b m : Int32) : xI := c_fg (c_mg (c_fg (x_u (x_u I c 0 b) c 1 m) (c + 2) 24 0) (c + 1) w 24) (c + 5) 24 (-1)
section CAMP
variable {Z : xZ}
set_option maxHeartbeats 1000000 in
theorem k_bits (d : Nat) (I : xI) (x : Int32) : ER Z (d + 1) 141 I [.int x] (fun I' v => I' = I ∧ v = some (.int (i_bc x))) := by
  refine ER.of (ls := [some (.int x)]) rfl rfl ?_
  repeat' (first
      | (with_reducible refine WR.lt (by omega) (by omega) (fun _ => ?_) (fun _ => ?_) <;> try (exfalso; omega))
      | (with_reducible refine WR.le (by omega) (by omega) (fun _ => ?_) (fun _ => ?_) <;> try (exfalso; omega))
      | (with_reducible refine WR.eq (by omega) (by omega) (fun _ => ?_) (fun _ => ?_) <;> try (exfalso; omega))
      | (with_reducible refine WR.ne (by omega) (by omega) (fun _ => ?_) (fun _ => ?_) <;> try (exfalso; omega))
      | with_reducible refine WR.lt0 (by omega) ?_
      | with_reducible refine WR.ge0 (by omega) ?_
      | (with_reducible refine WR.bz (fun _ => ?_) (fun _ => ?_) <;> try contradiction)
      | (with_reducible refine WR.bn (fun _ => ?_) (fun _ => ?_) <;> try contradiction)
      | (with_reducible refine WR.br (fun _ => ?_) (fun _ => ?_) <;> try contradiction)
      | refine WR.gIk rfl (by assumption) (by with_reducible assumption) ?_
      | refine WR.gI rfl (by assumption) ?_
      | refine WR.gR rfl (by assumption) (by assumption) ?_
      | refine WR.gN rfl (by assumption) (by assumption) ?_
      | refine WR.gL rfl (by assumption) ?_
      | refine WR.addn rfl (by with_reducible rfl) (by with_reducible rfl) ?_
      | refine WR.muln rfl (by with_reducible rfl) (by with_reducible rfl) ?_
      | refine WR.subn rfl (by with_reducible rfl) (by with_reducible rfl) (by omega) ?_
      | (refine WR.decn rfl rfl ?_; dsimp only [List.set])
      | (refine WR.incn rfl rfl ?_; dsimp only [List.set])
      | (refine WR.go rfl rfl ?_; try dsimp only [List.set])
      | refine WR.aIk rfl (by assumption) rfl (by first | with_reducible rfl | with_reducible assumption) (by omega) (by with_reducible assumption) ?_
      | refine WR.aI rfl (by assumption) rfl (by first | with_reducible rfl | with_reducible assumption) (by omega) ?_
      | refine WR.sI rfl (by assumption) rfl (by first | with_reducible rfl | with_reducible assumption) (by omega) ?_
      | refine WR.pI rfl (by assumption) ?_
      | refine WR.rt rfl rfl rfl rfl ?_
      | refine WR.rz rfl rfl (by decide) ?_)
  exact ⟨rfl, rfl⟩
set_option maxHeartbeats 1000000 in
theorem k_maj (d : Nat) (I : xI) (x : Int32) {b : Nat} (hb : b < 32) : ER Z (d + 2) 79 I [.int x, .int (nI b)] (fun I' v => I' = I ∧ v = some (.int (bI (f_maj x (nI b))))) := by
  obtain ⟨c, c1, c2⟩ := i_and x hb
  refine ER.of (ls := [some (.int x), some (.int (nI b))]) rfl rfl ?_
  repeat' ((with_reducible fail_if_success show WR _ _ _ 4 _ _ _ _); (first
      | (with_reducible refine WR.lt (by omega) (by omega) (fun _ => ?_) (fun _ => ?_) <;> try (exfalso; omega))
      | (with_reducible refine WR.le (by omega) (by omega) (fun _ => ?_) (fun _ => ?_) <;> try (exfalso; omega))
      | (with_reducible refine WR.eq (by omega) (by omega) (fun _ => ?_) (fun _ => ?_) <;> try (exfalso; omega))
      | (with_reducible refine WR.ne (by omega) (by omega) (fun _ => ?_) (fun _ => ?_) <;> try (exfalso; omega))
      | with_reducible refine WR.lt0 (by omega) ?_
      | with_reducible refine WR.ge0 (by omega) ?_
      | (with_reducible refine WR.bz (fun _ => ?_) (fun _ => ?_) <;> try contradiction)
      | (with_reducible refine WR.bn (fun _ => ?_) (fun _ => ?_) <;> try contradiction)
      | (with_reducible refine WR.br (fun _ => ?_) (fun _ => ?_) <;> try contradiction)
      | refine WR.gIk rfl (by assumption) (by with_reducible assumption) ?_
      | refine WR.gI rfl (by assumption) ?_
      | refine WR.gR rfl (by assumption) (by assumption) ?_
      | refine WR.gN rfl (by assumption) (by assumption) ?_
      | refine WR.gL rfl (by assumption) ?_
      | refine WR.addn rfl (by with_reducible rfl) (by with_reducible rfl) ?_
      | refine WR.muln rfl (by with_reducible rfl) (by with_reducible rfl) ?_
      | refine WR.subn rfl (by with_reducible rfl) (by with_reducible rfl) (by omega) ?_
      | (refine WR.decn rfl rfl ?_; dsimp only [List.set])
      | (refine WR.incn rfl rfl ?_; dsimp only [List.set])
      | (refine WR.go rfl rfl ?_; try dsimp only [List.set])
      | refine WR.aIk rfl (by assumption) rfl (by first | with_reducible rfl | with_reducible assumption) (by omega) (by with_reducible assumption) ?_
      | refine WR.aI rfl (by assumption) rfl (by first | with_reducible rfl | with_reducible assumption) (by omega) ?_
      | refine WR.sI rfl (by assumption) rfl (by first | with_reducible rfl | with_reducible assumption) (by omega) ?_
      | refine WR.pI rfl (by assumption) ?_
      | refine WR.rt rfl rfl rfl rfl ?_
      | refine WR.rz rfl rfl (by decide) ?_))
  refine WR.S1i rfl rfl (k_bits d I _) ?_
  rw [c2, i_bc32 c c1]
  repeat' ((with_reducible fail_if_success show WR _ _ _ 9 _ _ _ _); (first
      | (with_reducible refine WR.lt (by omega) (by omega) (fun _ => ?_) (fun _ => ?_) <;> try (exfalso; omega))
      | (with_reducible refine WR.le (by omega) (by omega) (fun _ => ?_) (fun _ => ?_) <;> try (exfalso; omega))
      | (with_reducible refine WR.eq (by omega) (by omega) (fun _ => ?_) (fun _ => ?_) <;> try (exfalso; omega))
      | (with_reducible refine WR.ne (by omega) (by omega) (fun _ => ?_) (fun _ => ?_) <;> try (exfalso; omega))
      | with_reducible refine WR.lt0 (by omega) ?_
      | with_reducible refine WR.ge0 (by omega) ?_
      | (with_reducible refine WR.bz (fun _ => ?_) (fun _ => ?_) <;> try contradiction)
      | (with_reducible refine WR.bn (fun _ => ?_) (fun _ => ?_) <;> try contradiction)
      | (with_reducible refine WR.br (fun _ => ?_) (fun _ => ?_) <;> try contradiction)
      | refine WR.gIk rfl (by assumption) (by with_reducible assumption) ?_
      | refine WR.gI rfl (by assumption) ?_
      | refine WR.gR rfl (by assumption) (by assumption) ?_
      | refine WR.gN rfl (by assumption) (by assumption) ?_
      | refine WR.gL rfl (by assumption) ?_
      | refine WR.addn rfl (by with_reducible rfl) (by with_reducible rfl) ?_
      | refine WR.muln rfl (by with_reducible rfl) (by with_reducible rfl) ?_
      | refine WR.subn rfl (by with_reducible rfl) (by with_reducible rfl) (by omega) ?_
      | (refine WR.decn rfl rfl ?_; dsimp only [List.set])
      | (refine WR.incn rfl rfl ?_; dsimp only [List.set])
      | (refine WR.go rfl rfl ?_; try dsimp only [List.set])
      | refine WR.aIk rfl (by assumption) rfl (by first | with_reducible rfl | with_reducible assumption) (by omega) (by with_reducible assumption) ?_
      | refine WR.aI rfl (by assumption) rfl (by first | with_reducible rfl | with_reducible assumption) (by omega) ?_
      | refine WR.sI rfl (by assumption) rfl (by first | with_reducible rfl | with_reducible assumption) (by omega) ?_
      | refine WR.pI rfl (by assumption) ?_
      | refine WR.rt rfl rfl rfl rfl ?_
      | refine WR.rz rfl rfl (by decide) ?_))
  refine WR.S1i rfl rfl (k_bits d I _) ?_
  rw [i_bc32 b hb]
  repeat' (first
      | (with_reducible refine WR.lt (by omega) (by omega) (fun _ => ?_) (fun _ => ?_) <;> try (exfalso; omega))
      | (with_reducible refine WR.le (by omega) (by omega) (fun _ => ?_) (fun _ => ?_) <;> try (exfalso; omega))
      | (with_reducible refine WR.eq (by omega) (by omega) (fun _ => ?_) (fun _ => ?_) <;> try (exfalso; omega))
      | (with_reducible refine WR.ne (by omega) (by omega) (fun _ => ?_) (fun _ => ?_) <;> try (exfalso; omega))
      | with_reducible refine WR.lt0 (by omega) ?_
      | with_reducible refine WR.ge0 (by omega) ?_
      | (with_reducible refine WR.bz (fun _ => ?_) (fun _ => ?_) <;> try contradiction)
      | (with_reducible refine WR.bn (fun _ => ?_) (fun _ => ?_) <;> try contradiction)
      | (with_reducible refine WR.br (fun _ => ?_) (fun _ => ?_) <;> try contradiction)
      | refine WR.gIk rfl (by assumption) (by with_reducible assumption) ?_
      | refine WR.gI rfl (by assumption) ?_
      | refine WR.gR rfl (by assumption) (by assumption) ?_
      | refine WR.gN rfl (by assumption) (by assumption) ?_
      | refine WR.gL rfl (by assumption) ?_
      | refine WR.addn rfl (by with_reducible rfl) (by with_reducible rfl) ?_
      | refine WR.muln rfl (by with_reducible rfl) (by with_reducible rfl) ?_
      | refine WR.subn rfl (by with_reducible rfl) (by with_reducible rfl) (by omega) ?_
      | (refine WR.decn rfl rfl ?_; dsimp only [List.set])
      | (refine WR.incn rfl rfl ?_; dsimp only [List.set])
      | (refine WR.go rfl rfl ?_; try dsimp only [List.set])
      | refine WR.aIk rfl (by assumption) rfl (by first | with_reducible rfl | with_reducible assumption) (by omega) (by with_reducible assumption) ?_
      | refine WR.aI rfl (by assumption) rfl (by first | with_reducible rfl | with_reducible assumption) (by omega) ?_
      | refine WR.sI rfl (by assumption) rfl (by first | with_reducible rfl | with_reducible assumption) (by omega) ?_
      | refine WR.pI rfl (by assumption) ?_
      | refine WR.rt rfl rfl rfl rfl ?_
      | refine WR.rz rfl rfl (by decide) ?_)
  · rename_i h; exact ⟨rfl, by rw [f_maj, c2, i_le_gt h]; rfl⟩
  · rename_i h; exact ⟨rfl, by rw [f_maj, c2, i_nle h]; rfl⟩
set_option maxHeartbeats 1000000 in
theorem k_isMem (d : Nat) (I : xI) (x : Int32) : ER Z (d + 2) 75 I [.int x] (fun I' v => I' = I ∧ v = some (.int (bI (decide (0 ≤ x) && decide (x ≤ nI 31) && decide (nI 2 ≤ f_cnt x))))) := by
  refine ER.of (ls := [some (.int x)]) rfl rfl ?_
  iterate 3 (first
      | (with_reducible refine WR.lt (by omega) (by omega) (fun _ => ?_) (fun _ => ?_) <;> try (exfalso; omega))
      | (with_reducible refine WR.le (by omega) (by omega) (fun _ => ?_) (fun _ => ?_) <;> try (exfalso; omega))
      | (with_reducible refine WR.eq (by omega) (by omega) (fun _ => ?_) (fun _ => ?_) <;> try (exfalso; omega))
      | (with_reducible refine WR.ne (by omega) (by omega) (fun _ => ?_) (fun _ => ?_) <;> try (exfalso; omega))
      | with_reducible refine WR.lt0 (by omega) ?_
      | with_reducible refine WR.ge0 (by omega) ?_
      | (with_reducible refine WR.bz (fun _ => ?_) (fun _ => ?_) <;> try contradiction)
      | (with_reducible refine WR.bn (fun _ => ?_) (fun _ => ?_) <;> try contradiction)
      | (with_reducible refine WR.br (fun _ => ?_) (fun _ => ?_) <;> try contradiction)
      | refine WR.gIk rfl (by assumption) (by with_reducible assumption) ?_
      | refine WR.gI rfl (by assumption) ?_
      | refine WR.gR rfl (by assumption) (by assumption) ?_
      | refine WR.gN rfl (by assumption) (by assumption) ?_
      | refine WR.gL rfl (by assumption) ?_
      | refine WR.addn rfl (by with_reducible rfl) (by with_reducible rfl) ?_
      | refine WR.muln rfl (by with_reducible rfl) (by with_reducible rfl) ?_
      | refine WR.subn rfl (by with_reducible rfl) (by with_reducible rfl) (by omega) ?_
      | (refine WR.decn rfl rfl ?_; dsimp only [List.set])
      | (refine WR.incn rfl rfl ?_; dsimp only [List.set])
      | (refine WR.go rfl rfl ?_; try dsimp only [List.set])
      | refine WR.aIk rfl (by assumption) rfl (by first | with_reducible rfl | with_reducible assumption) (by omega) (by with_reducible assumption) ?_
      | refine WR.aI rfl (by assumption) rfl (by first | with_reducible rfl | with_reducible assumption) (by omega) ?_
      | refine WR.sI rfl (by assumption) rfl (by first | with_reducible rfl | with_reducible assumption) (by omega) ?_
      | refine WR.pI rfl (by assumption) ?_
      | refine WR.rt rfl rfl rfl rfl ?_
      | refine WR.rz rfl rfl (by decide) ?_)
  · rename_i h
    repeat' (first
      | (with_reducible refine WR.lt (by omega) (by omega) (fun _ => ?_) (fun _ => ?_) <;> try (exfalso; omega))
      | (with_reducible refine WR.le (by omega) (by omega) (fun _ => ?_) (fun _ => ?_) <;> try (exfalso; omega))
      | (with_reducible refine WR.eq (by omega) (by omega) (fun _ => ?_) (fun _ => ?_) <;> try (exfalso; omega))
      | (with_reducible refine WR.ne (by omega) (by omega) (fun _ => ?_) (fun _ => ?_) <;> try (exfalso; omega))
      | with_reducible refine WR.lt0 (by omega) ?_
      | with_reducible refine WR.ge0 (by omega) ?_
      | (with_reducible refine WR.bz (fun _ => ?_) (fun _ => ?_) <;> try contradiction)
      | (with_reducible refine WR.bn (fun _ => ?_) (fun _ => ?_) <;> try contradiction)
      | (with_reducible refine WR.br (fun _ => ?_) (fun _ => ?_) <;> try contradiction)
      | refine WR.gIk rfl (by assumption) (by with_reducible assumption) ?_
      | refine WR.gI rfl (by assumption) ?_
      | refine WR.gR rfl (by assumption) (by assumption) ?_
      | refine WR.gN rfl (by assumption) (by assumption) ?_
      | refine WR.gL rfl (by assumption) ?_
      | refine WR.addn rfl (by with_reducible rfl) (by with_reducible rfl) ?_
      | refine WR.muln rfl (by with_reducible rfl) (by with_reducible rfl) ?_
      | refine WR.subn rfl (by with_reducible rfl) (by with_reducible rfl) (by omega) ?_
      | (refine WR.decn rfl rfl ?_; dsimp only [List.set])
      | (refine WR.incn rfl rfl ?_; dsimp only [List.set])
      | (refine WR.go rfl rfl ?_; try dsimp only [List.set])
      | refine WR.aIk rfl (by assumption) rfl (by first | with_reducible rfl | with_reducible assumption) (by omega) (by with_reducible assumption) ?_
      | refine WR.aI rfl (by assumption) rfl (by first | with_reducible rfl | with_reducible assumption) (by omega) ?_
      | refine WR.sI rfl (by assumption) rfl (by first | with_reducible rfl | with_reducible assumption) (by omega) ?_
      | refine WR.pI rfl (by assumption) ?_
      | refine WR.rt rfl rfl rfl rfl ?_
      | refine WR.rz rfl rfl (by decide) ?_)
    exact ⟨rfl, by rw [i_lt_ge h]; rfl⟩
  · rename_i h
    iterate 4 (first
      | (with_reducible refine WR.lt (by omega) (by omega) (fun _ => ?_) (fun _ => ?_) <;> try (exfalso; omega))
      | (with_reducible refine WR.le (by omega) (by omega) (fun _ => ?_) (fun _ => ?_) <;> try (exfalso; omega))
      | (with_reducible refine WR.eq (by omega) (by omega) (fun _ => ?_) (fun _ => ?_) <;> try (exfalso; omega))
      | (with_reducible refine WR.ne (by omega) (by omega) (fun _ => ?_) (fun _ => ?_) <;> try (exfalso; omega))
      | with_reducible refine WR.lt0 (by omega) ?_
      | with_reducible refine WR.ge0 (by omega) ?_
      | (with_reducible refine WR.bz (fun _ => ?_) (fun _ => ?_) <;> try contradiction)
      | (with_reducible refine WR.bn (fun _ => ?_) (fun _ => ?_) <;> try contradiction)
      | (with_reducible refine WR.br (fun _ => ?_) (fun _ => ?_) <;> try contradiction)
      | refine WR.gIk rfl (by assumption) (by with_reducible assumption) ?_
      | refine WR.gI rfl (by assumption) ?_
      | refine WR.gR rfl (by assumption) (by assumption) ?_
      | refine WR.gN rfl (by assumption) (by assumption) ?_
      | refine WR.gL rfl (by assumption) ?_
      | refine WR.addn rfl (by with_reducible rfl) (by with_reducible rfl) ?_
      | refine WR.muln rfl (by with_reducible rfl) (by with_reducible rfl) ?_
      | refine WR.subn rfl (by with_reducible rfl) (by with_reducible rfl) (by omega) ?_
      | (refine WR.decn rfl rfl ?_; dsimp only [List.set])
      | (refine WR.incn rfl rfl ?_; dsimp only [List.set])
      | (refine WR.go rfl rfl ?_; try dsimp only [List.set])
      | refine WR.aIk rfl (by assumption) rfl (by first | with_reducible rfl | with_reducible assumption) (by omega) (by with_reducible assumption) ?_
      | refine WR.aI rfl (by assumption) rfl (by first | with_reducible rfl | with_reducible assumption) (by omega) ?_
      | refine WR.sI rfl (by assumption) rfl (by first | with_reducible rfl | with_reducible assumption) (by omega) ?_
      | refine WR.pI rfl (by assumption) ?_
      | refine WR.rt rfl rfl rfl rfl ?_
      | refine WR.rz rfl rfl (by decide) ?_)
    · rename_i h2
      repeat' (first
      | (with_reducible refine WR.lt (by omega) (by omega) (fun _ => ?_) (fun _ => ?_) <;> try (exfalso; omega))
      | (with_reducible refine WR.le (by omega) (by omega) (fun _ => ?_) (fun _ => ?_) <;> try (exfalso; omega))
      | (with_reducible refine WR.eq (by omega) (by omega) (fun _ => ?_) (fun _ => ?_) <;> try (exfalso; omega))
      | (with_reducible refine WR.ne (by omega) (by omega) (fun _ => ?_) (fun _ => ?_) <;> try (exfalso; omega))
      | with_reducible refine WR.lt0 (by omega) ?_
      | with_reducible refine WR.ge0 (by omega) ?_
      | (with_reducible refine WR.bz (fun _ => ?_) (fun _ => ?_) <;> try contradiction)
      | (with_reducible refine WR.bn (fun _ => ?_) (fun _ => ?_) <;> try contradiction)
      | (with_reducible refine WR.br (fun _ => ?_) (fun _ => ?_) <;> try contradiction)
      | refine WR.gIk rfl (by assumption) (by with_reducible assumption) ?_
      | refine WR.gI rfl (by assumption) ?_
      | refine WR.gR rfl (by assumption) (by assumption) ?_
      | refine WR.gN rfl (by assumption) (by assumption) ?_
      | refine WR.gL rfl (by assumption) ?_
      | refine WR.addn rfl (by with_reducible rfl) (by with_reducible rfl) ?_
      | refine WR.muln rfl (by with_reducible rfl) (by with_reducible rfl) ?_
      | refine WR.subn rfl (by with_reducible rfl) (by with_reducible rfl) (by omega) ?_
      | (refine WR.decn rfl rfl ?_; dsimp only [List.set])
      | (refine WR.incn rfl rfl ?_; dsimp only [List.set])
      | (refine WR.go rfl rfl ?_; try dsimp only [List.set])
      | refine WR.aIk rfl (by assumption) rfl (by first | with_reducible rfl | with_reducible assumption) (by omega) (by with_reducible assumption) ?_
      | refine WR.aI rfl (by assumption) rfl (by first | with_reducible rfl | with_reducible assumption) (by omega) ?_
      | refine WR.sI rfl (by assumption) rfl (by first | with_reducible rfl | with_reducible assumption) (by omega) ?_
      | refine WR.pI rfl (by assumption) ?_
      | refine WR.rt rfl rfl rfl rfl ?_
      | refine WR.rz rfl rfl (by decide) ?_)
      exact ⟨rfl, by rw [i_lt_ge h2, Bool.and_false, Bool.false_and]; rfl⟩
    · rename_i h2
      iterate 1 (first
      | (with_reducible refine WR.lt (by omega) (by omega) (fun _ => ?_) (fun _ => ?_) <;> try (exfalso; omega))
      | (with_reducible refine WR.le (by omega) (by omega) (fun _ => ?_) (fun _ => ?_) <;> try (exfalso; omega))
      | (with_reducible refine WR.eq (by omega) (by omega) (fun _ => ?_) (fun _ => ?_) <;> try (exfalso; omega))
      | (with_reducible refine WR.ne (by omega) (by omega) (fun _ => ?_) (fun _ => ?_) <;> try (exfalso; omega))
      | with_reducible refine WR.lt0 (by omega) ?_
      | with_reducible refine WR.ge0 (by omega) ?_
      | (with_reducible refine WR.bz (fun _ => ?_) (fun _ => ?_) <;> try contradiction)
      | (with_reducible refine WR.bn (fun _ => ?_) (fun _ => ?_) <;> try contradiction)
      | (with_reducible refine WR.br (fun _ => ?_) (fun _ => ?_) <;> try contradiction)
      | refine WR.gIk rfl (by assumption) (by with_reducible assumption) ?_
      | refine WR.gI rfl (by assumption) ?_
      | refine WR.gR rfl (by assumption) (by assumption) ?_
      | refine WR.gN rfl (by assumption) (by assumption) ?_
      | refine WR.gL rfl (by assumption) ?_
      | refine WR.addn rfl (by with_reducible rfl) (by with_reducible rfl) ?_
      | refine WR.muln rfl (by with_reducible rfl) (by with_reducible rfl) ?_
      | refine WR.subn rfl (by with_reducible rfl) (by with_reducible rfl) (by omega) ?_
      | (refine WR.decn rfl rfl ?_; dsimp only [List.set])
      | (refine WR.incn rfl rfl ?_; dsimp only [List.set])
      | (refine WR.go rfl rfl ?_; try dsimp only [List.set])
      | refine WR.aIk rfl (by assumption) rfl (by first | with_reducible rfl | with_reducible assumption) (by omega) (by with_reducible assumption) ?_
      | refine WR.aI rfl (by assumption) rfl (by first | with_reducible rfl | with_reducible assumption) (by omega) ?_
      | refine WR.sI rfl (by assumption) rfl (by first | with_reducible rfl | with_reducible assumption) (by omega) ?_
      | refine WR.pI rfl (by assumption) ?_
      | refine WR.rt rfl rfl rfl rfl ?_
      | refine WR.rz rfl rfl (by decide) ?_)
      refine WR.S1i rfl rfl (k_bits d I _) ?_
      have hx : ∃ m, m < 32 ∧ x = nI m := by
        have h1 := Int32.not_lt.mp h
        have h3 := Int32.not_lt.mp h2
        have h5 : x < nI 32 := Int32.lt_of_le_of_lt h3 (by decide)
        obtain ⟨j, j1, j2, _⟩ := pk_mu h (Int32.not_le.mpr h5) (by decide)
        exact ⟨j, j1, j2⟩
      obtain ⟨m, m1, m2⟩ := hx
      rw [i_nlt h, i_nlt h2, m2, i_bc32 m m1]
      repeat' (first
      | (with_reducible refine WR.lt (by omega) (by omega) (fun _ => ?_) (fun _ => ?_) <;> try (exfalso; omega))
      | (with_reducible refine WR.le (by omega) (by omega) (fun _ => ?_) (fun _ => ?_) <;> try (exfalso; omega))
      | (with_reducible refine WR.eq (by omega) (by omega) (fun _ => ?_) (fun _ => ?_) <;> try (exfalso; omega))
      | (with_reducible refine WR.ne (by omega) (by omega) (fun _ => ?_) (fun _ => ?_) <;> try (exfalso; omega))
      | with_reducible refine WR.lt0 (by omega) ?_
      | with_reducible refine WR.ge0 (by omega) ?_
      | (with_reducible refine WR.bz (fun _ => ?_) (fun _ => ?_) <;> try contradiction)
      | (with_reducible refine WR.bn (fun _ => ?_) (fun _ => ?_) <;> try contradiction)
      | (with_reducible refine WR.br (fun _ => ?_) (fun _ => ?_) <;> try contradiction)
      | refine WR.gIk rfl (by assumption) (by with_reducible assumption) ?_
      | refine WR.gI rfl (by assumption) ?_
      | refine WR.gR rfl (by assumption) (by assumption) ?_
      | refine WR.gN rfl (by assumption) (by assumption) ?_
      | refine WR.gL rfl (by assumption) ?_
      | refine WR.addn rfl (by with_reducible rfl) (by with_reducible rfl) ?_
      | refine WR.muln rfl (by with_reducible rfl) (by with_reducible rfl) ?_
      | refine WR.subn rfl (by with_reducible rfl) (by with_reducible rfl) (by omega) ?_
      | (refine WR.decn rfl rfl ?_; dsimp only [List.set])
      | (refine WR.incn rfl rfl ?_; dsimp only [List.set])
      | (refine WR.go rfl rfl ?_; try dsimp only [List.set])
      | refine WR.aIk rfl (by assumption) rfl (by first | with_reducible rfl | with_reducible assumption) (by omega) (by with_reducible assumption) ?_
      | refine WR.aI rfl (by assumption) rfl (by first | with_reducible rfl | with_reducible assumption) (by omega) ?_
      | refine WR.sI rfl (by assumption) rfl (by first | with_reducible rfl | with_reducible assumption) (by omega) ?_
      | refine WR.pI rfl (by assumption) ?_
      | refine WR.rt rfl rfl rfl rfl ?_
      | refine WR.rz rfl rfl (by decide) ?_)
      · rename_i h3; exact ⟨rfl, by rw [i_lt_ge h3]; rfl⟩
      · rename_i h3; exact ⟨rfl, by rw [i_nlt h3]; rfl⟩
set_option maxHeartbeats 1000000 in
theorem k_isRep (d : Nat) (I : xI) (x : Int32) : ER Z (d + 1) 77 I [.int x] (fun I' v => I' = I ∧ v = some (.int (bI (f_rep x)))) := by
  refine ER.of (ls := [some (.int x)]) rfl rfl ?_
  repeat' (first
      | (with_reducible refine WR.lt (by omega) (by omega) (fun _ => ?_) (fun _ => ?_) <;> try (exfalso; omega))
      | (with_reducible refine WR.le (by omega) (by omega) (fun _ => ?_) (fun _ => ?_) <;> try (exfalso; omega))
      | (with_reducible refine WR.eq (by omega) (by omega) (fun _ => ?_) (fun _ => ?_) <;> try (exfalso; omega))
      | (with_reducible refine WR.ne (by omega) (by omega) (fun _ => ?_) (fun _ => ?_) <;> try (exfalso; omega))
      | with_reducible refine WR.lt0 (by omega) ?_
      | with_reducible refine WR.ge0 (by omega) ?_
      | (with_reducible refine WR.bz (fun _ => ?_) (fun _ => ?_) <;> try contradiction)
      | (with_reducible refine WR.bn (fun _ => ?_) (fun _ => ?_) <;> try contradiction)
      | (with_reducible refine WR.br (fun _ => ?_) (fun _ => ?_) <;> try contradiction)
      | refine WR.gIk rfl (by assumption) (by with_reducible assumption) ?_
      | refine WR.gI rfl (by assumption) ?_
      | refine WR.gR rfl (by assumption) (by assumption) ?_
      | refine WR.gN rfl (by assumption) (by assumption) ?_
      | refine WR.gL rfl (by assumption) ?_
      | refine WR.addn rfl (by with_reducible rfl) (by with_reducible rfl) ?_
      | refine WR.muln rfl (by with_reducible rfl) (by with_reducible rfl) ?_
      | refine WR.subn rfl (by with_reducible rfl) (by with_reducible rfl) (by omega) ?_
      | (refine WR.decn rfl rfl ?_; dsimp only [List.set])
      | (refine WR.incn rfl rfl ?_; dsimp only [List.set])
      | (refine WR.go rfl rfl ?_; try dsimp only [List.set])
      | refine WR.aIk rfl (by assumption) rfl (by first | with_reducible rfl | with_reducible assumption) (by omega) (by with_reducible assumption) ?_
      | refine WR.aI rfl (by assumption) rfl (by first | with_reducible rfl | with_reducible assumption) (by omega) ?_
      | refine WR.sI rfl (by assumption) rfl (by first | with_reducible rfl | with_reducible assumption) (by omega) ?_
      | refine WR.pI rfl (by assumption) ?_
      | refine WR.rt rfl rfl rfl rfl ?_
      | refine WR.rz rfl rfl (by decide) ?_)
  · rename_i h; exact ⟨rfl, by simp [f_rep, i_lt_ge h, bI]; rfl⟩
  · rename_i h; exact ⟨rfl, by simp [f_rep, i_le_gt h, bI]; rfl⟩
  · rename_i h1 h2; exact ⟨rfl, by simp [f_rep, i_nlt h1, i_nle h2, bI]; rfl⟩
set_option maxHeartbeats 1000000 in
theorem k_cpropose (d : Nat) (I : xI) {c s : Nat} (x : Int32) (hs : s < 2 ^ 31) (hc : caK Z c) : ER Z (d + 3) 1 I [.ref c, .int (nI s), .int x] (fun I' v => I' = c_cpr I c s x ∧ v = none) := by
  obtain ⟨c1, c2, c3, c4, c5, c6, c7⟩ := hc
  refine ER.of (ls := [some (.ref c), some (.int (nI s)), some (.int x)]) rfl rfl ?_
  iterate 1 (first
      | (with_reducible refine WR.lt (by omega) (by omega) (fun _ => ?_) (fun _ => ?_) <;> try (exfalso; omega))
      | (with_reducible refine WR.le (by omega) (by omega) (fun _ => ?_) (fun _ => ?_) <;> try (exfalso; omega))
      | (with_reducible refine WR.eq (by omega) (by omega) (fun _ => ?_) (fun _ => ?_) <;> try (exfalso; omega))
      | (with_reducible refine WR.ne (by omega) (by omega) (fun _ => ?_) (fun _ => ?_) <;> try (exfalso; omega))
      | with_reducible refine WR.lt0 (by omega) ?_
      | with_reducible refine WR.ge0 (by omega) ?_
      | (with_reducible refine WR.bz (fun _ => ?_) (fun _ => ?_) <;> try contradiction)
      | (with_reducible refine WR.bn (fun _ => ?_) (fun _ => ?_) <;> try contradiction)
      | (with_reducible refine WR.br (fun _ => ?_) (fun _ => ?_) <;> try contradiction)
      | refine WR.gIk rfl (by assumption) (by with_reducible assumption) ?_
      | refine WR.gI rfl (by assumption) ?_
      | refine WR.gR rfl (by assumption) (by assumption) ?_
      | refine WR.gN rfl (by assumption) (by assumption) ?_
      | refine WR.gL rfl (by assumption) ?_
      | refine WR.addn rfl (by with_reducible rfl) (by with_reducible rfl) ?_
      | refine WR.muln rfl (by with_reducible rfl) (by with_reducible rfl) ?_
      | refine WR.subn rfl (by with_reducible rfl) (by with_reducible rfl) (by omega) ?_
      | (refine WR.decn rfl rfl ?_; dsimp only [List.set])
      | (refine WR.incn rfl rfl ?_; dsimp only [List.set])
      | (refine WR.go rfl rfl ?_; try dsimp only [List.set])
      | refine WR.aIk rfl (by assumption) rfl (by first | with_reducible rfl | with_reducible assumption) (by omega) (by with_reducible assumption) ?_
      | refine WR.aI rfl (by assumption) rfl (by first | with_reducible rfl | with_reducible assumption) (by omega) ?_
      | refine WR.sI rfl (by assumption) rfl (by first | with_reducible rfl | with_reducible assumption) (by omega) ?_
      | refine WR.pI rfl (by assumption) ?_
      | refine WR.rt rfl rfl rfl rfl ?_
      | refine WR.rz rfl rfl (by decide) ?_)
  refine WR.S1i rfl rfl (k_slot (d + 1) I hs) ?_
  rw [c_cpr]
  iterate 2 (first
      | (with_reducible refine WR.lt (by omega) (by omega) (fun _ => ?_) (fun _ => ?_) <;> try (exfalso; omega))
      | (with_reducible refine WR.le (by omega) (by omega) (fun _ => ?_) (fun _ => ?_) <;> try (exfalso; omega))
      | (with_reducible refine WR.eq (by omega) (by omega) (fun _ => ?_) (fun _ => ?_) <;> try (exfalso; omega))
      | (with_reducible refine WR.ne (by omega) (by omega) (fun _ => ?_) (fun _ => ?_) <;> try (exfalso; omega))
      | with_reducible refine WR.lt0 (by omega) ?_
      | with_reducible refine WR.ge0 (by omega) ?_
      | (with_reducible refine WR.bz (fun _ => ?_) (fun _ => ?_) <;> try contradiction)
      | (with_reducible refine WR.bn (fun _ => ?_) (fun _ => ?_) <;> try contradiction)
      | (with_reducible refine WR.br (fun _ => ?_) (fun _ => ?_) <;> try contradiction)
      | refine WR.gIk rfl (by assumption) (by with_reducible assumption) ?_
      | refine WR.gI rfl (by assumption) ?_
      | refine WR.gR rfl (by assumption) (by assumption) ?_
      | refine WR.gN rfl (by assumption) (by assumption) ?_
      | refine WR.gL rfl (by assumption) ?_
      | refine WR.addn rfl (by with_reducible rfl) (by with_reducible rfl) ?_
      | refine WR.muln rfl (by with_reducible rfl) (by with_reducible rfl) ?_
      | refine WR.subn rfl (by with_reducible rfl) (by with_reducible rfl) (by omega) ?_
      | (refine WR.decn rfl rfl ?_; dsimp only [List.set])
      | (refine WR.incn rfl rfl ?_; dsimp only [List.set])
      | (refine WR.go rfl rfl ?_; try dsimp only [List.set])
      | refine WR.aIk rfl (by assumption) rfl (by first | with_reducible rfl | with_reducible assumption) (by omega) (by with_reducible assumption) ?_
      | refine WR.aI rfl (by assumption) rfl (by first | with_reducible rfl | with_reducible assumption) (by omega) ?_
      | refine WR.sI rfl (by assumption) rfl (by first | with_reducible rfl | with_reducible assumption) (by omega) ?_
      | refine WR.pI rfl (by assumption) ?_
      | refine WR.rt rfl rfl rfl rfl ?_
      | refine WR.rz rfl rfl (by decide) ?_)
  · rename_i h
    rw [h]
    repeat' (first
      | (with_reducible refine WR.lt (by omega) (by omega) (fun _ => ?_) (fun _ => ?_) <;> try (exfalso; omega))
      | (with_reducible refine WR.le (by omega) (by omega) (fun _ => ?_) (fun _ => ?_) <;> try (exfalso; omega))
      | (with_reducible refine WR.eq (by omega) (by omega) (fun _ => ?_) (fun _ => ?_) <;> try (exfalso; omega))
      | (with_reducible refine WR.ne (by omega) (by omega) (fun _ => ?_) (fun _ => ?_) <;> try (exfalso; omega))
      | with_reducible refine WR.lt0 (by omega) ?_
      | with_reducible refine WR.ge0 (by omega) ?_
      | (with_reducible refine WR.bz (fun _ => ?_) (fun _ => ?_) <;> try contradiction)
      | (with_reducible refine WR.bn (fun _ => ?_) (fun _ => ?_) <;> try contradiction)
      | (with_reducible refine WR.br (fun _ => ?_) (fun _ => ?_) <;> try contradiction)
      | refine WR.gIk rfl (by assumption) (by with_reducible assumption) ?_
      | refine WR.gI rfl (by assumption) ?_
      | refine WR.gR rfl (by assumption) (by assumption) ?_
      | refine WR.gN rfl (by assumption) (by assumption) ?_
      | refine WR.gL rfl (by assumption) ?_
      | refine WR.addn rfl (by with_reducible rfl) (by with_reducible rfl) ?_
      | refine WR.muln rfl (by with_reducible rfl) (by with_reducible rfl) ?_
      | refine WR.subn rfl (by with_reducible rfl) (by with_reducible rfl) (by omega) ?_
      | (refine WR.decn rfl rfl ?_; dsimp only [List.set])
      | (refine WR.incn rfl rfl ?_; dsimp only [List.set])
      | (refine WR.go rfl rfl ?_; try dsimp only [List.set])
      | refine WR.aIk rfl (by assumption) rfl (by first | with_reducible rfl | with_reducible assumption) (by omega) (by with_reducible assumption) ?_
      | refine WR.aI rfl (by assumption) rfl (by first | with_reducible rfl | with_reducible assumption) (by omega) ?_
      | refine WR.sI rfl (by assumption) rfl (by first | with_reducible rfl | with_reducible assumption) (by omega) ?_
      | refine WR.pI rfl (by assumption) ?_
      | refine WR.rt rfl rfl rfl rfl ?_
      | refine WR.rz rfl rfl (by decide) ?_)
    exact ⟨rfl, rfl⟩
  · rename_i h
    rw [h]
    have h' := c_sl_t.mp h
    repeat' ((with_reducible fail_if_success show WR _ _ _ 13 _ _ _ _); (first
      | (with_reducible refine WR.lt (by omega) (by omega) (fun _ => ?_) (fun _ => ?_) <;> try (exfalso; omega))
      | (with_reducible refine WR.le (by omega) (by omega) (fun _ => ?_) (fun _ => ?_) <;> try (exfalso; omega))
      | (with_reducible refine WR.eq (by omega) (by omega) (fun _ => ?_) (fun _ => ?_) <;> try (exfalso; omega))
      | (with_reducible refine WR.ne (by omega) (by omega) (fun _ => ?_) (fun _ => ?_) <;> try (exfalso; omega))
      | with_reducible refine WR.lt0 (by omega) ?_
      | with_reducible refine WR.ge0 (by omega) ?_
      | (with_reducible refine WR.bz (fun _ => ?_) (fun _ => ?_) <;> try contradiction)
      | (with_reducible refine WR.bn (fun _ => ?_) (fun _ => ?_) <;> try contradiction)
      | (with_reducible refine WR.br (fun _ => ?_) (fun _ => ?_) <;> try contradiction)
      | refine WR.gIk rfl (by assumption) (by with_reducible assumption) ?_
      | refine WR.gI rfl (by assumption) ?_
      | refine WR.gR rfl (by assumption) (by assumption) ?_
      | refine WR.gN rfl (by assumption) (by assumption) ?_
      | refine WR.gL rfl (by assumption) ?_
      | refine WR.addn rfl (by with_reducible rfl) (by with_reducible rfl) ?_
      | refine WR.muln rfl (by with_reducible rfl) (by with_reducible rfl) ?_
      | refine WR.subn rfl (by with_reducible rfl) (by with_reducible rfl) (by omega) ?_
      | (refine WR.decn rfl rfl ?_; dsimp only [List.set])
      | (refine WR.incn rfl rfl ?_; dsimp only [List.set])
      | (refine WR.go rfl rfl ?_; try dsimp only [List.set])
      | refine WR.aIk rfl (by assumption) rfl (by first | with_reducible rfl | with_reducible assumption) (by omega) (by with_reducible assumption) ?_
      | refine WR.aI rfl (by assumption) rfl (by first | with_reducible rfl | with_reducible assumption) (by omega) ?_
      | refine WR.sI rfl (by assumption) rfl (by first | with_reducible rfl | with_reducible assumption) (by omega) ?_
      | refine WR.pI rfl (by assumption) ?_
      | refine WR.rt rfl rfl rfl rfl ?_
      | refine WR.rz rfl rfl (by decide) ?_))
    refine WR.C2v rfl c6.1 rfl (k_cput d I x hs c6) ?_
    rw [c_cp, h]
    repeat' (first
      | (with_reducible refine WR.lt (by omega) (by omega) (fun _ => ?_) (fun _ => ?_) <;> try (exfalso; omega))
      | (with_reducible refine WR.le (by omega) (by omega) (fun _ => ?_) (fun _ => ?_) <;> try (exfalso; omega))
      | (with_reducible refine WR.eq (by omega) (by omega) (fun _ => ?_) (fun _ => ?_) <;> try (exfalso; omega))
      | (with_reducible refine WR.ne (by omega) (by omega) (fun _ => ?_) (fun _ => ?_) <;> try (exfalso; omega))
      | with_reducible refine WR.lt0 (by omega) ?_
      | with_reducible refine WR.ge0 (by omega) ?_
      | (with_reducible refine WR.bz (fun _ => ?_) (fun _ => ?_) <;> try contradiction)
      | (with_reducible refine WR.bn (fun _ => ?_) (fun _ => ?_) <;> try contradiction)
      | (with_reducible refine WR.br (fun _ => ?_) (fun _ => ?_) <;> try contradiction)
      | refine WR.gIk rfl (by assumption) (by with_reducible assumption) ?_
      | refine WR.gI rfl (by assumption) ?_
      | refine WR.gR rfl (by assumption) (by assumption) ?_
      | refine WR.gN rfl (by assumption) (by assumption) ?_
      | refine WR.gL rfl (by assumption) ?_
      | refine WR.addn rfl (by with_reducible rfl) (by with_reducible rfl) ?_
      | refine WR.muln rfl (by with_reducible rfl) (by with_reducible rfl) ?_
      | refine WR.subn rfl (by with_reducible rfl) (by with_reducible rfl) (by omega) ?_
      | (refine WR.decn rfl rfl ?_; dsimp only [List.set])
      | (refine WR.incn rfl rfl ?_; dsimp only [List.set])
      | (refine WR.go rfl rfl ?_; try dsimp only [List.set])
      | refine WR.aIk rfl (by assumption) rfl (by first | with_reducible rfl | with_reducible assumption) (by omega) (by with_reducible assumption) ?_
      | refine WR.aI rfl (by assumption) rfl (by first | with_reducible rfl | with_reducible assumption) (by omega) ?_
      | refine WR.sI rfl (by assumption) rfl (by first | with_reducible rfl | with_reducible assumption) (by omega) ?_
      | refine WR.pI rfl (by assumption) ?_
      | refine WR.rt rfl rfl rfl rfl ?_
      | refine WR.rz rfl rfl (by decide) ?_)
    exact ⟨rfl, rfl⟩
set_option maxHeartbeats 1000000 in
theorem k_caddVoter (d : Nat) (I : xI) {c s : Nat} (x : Int32) (hs : s < 2 ^ 31) (hc : caK Z c) : ER Z (d + 2) 2 I [.ref c, .int (nI s), .int x] (fun I' v => I' = c_cav I c s x ∧ v = none) := by
  obtain ⟨c1, c2, c3, c4, c5, c6, c7⟩ := hc
  refine ER.of (ls := [some (.ref c), some (.int (nI s)), some (.int x)]) rfl rfl ?_
  iterate 1 (first
      | (with_reducible refine WR.lt (by omega) (by omega) (fun _ => ?_) (fun _ => ?_) <;> try (exfalso; omega))
      | (with_reducible refine WR.le (by omega) (by omega) (fun _ => ?_) (fun _ => ?_) <;> try (exfalso; omega))
      | (with_reducible refine WR.eq (by omega) (by omega) (fun _ => ?_) (fun _ => ?_) <;> try (exfalso; omega))
      | (with_reducible refine WR.ne (by omega) (by omega) (fun _ => ?_) (fun _ => ?_) <;> try (exfalso; omega))
      | with_reducible refine WR.lt0 (by omega) ?_
      | with_reducible refine WR.ge0 (by omega) ?_
      | (with_reducible refine WR.bz (fun _ => ?_) (fun _ => ?_) <;> try contradiction)
      | (with_reducible refine WR.bn (fun _ => ?_) (fun _ => ?_) <;> try contradiction)
      | (with_reducible refine WR.br (fun _ => ?_) (fun _ => ?_) <;> try contradiction)
      | refine WR.gIk rfl (by assumption) (by with_reducible assumption) ?_
      | refine WR.gI rfl (by assumption) ?_
      | refine WR.gR rfl (by assumption) (by assumption) ?_
      | refine WR.gN rfl (by assumption) (by assumption) ?_
      | refine WR.gL rfl (by assumption) ?_
      | refine WR.addn rfl (by with_reducible rfl) (by with_reducible rfl) ?_
      | refine WR.muln rfl (by with_reducible rfl) (by with_reducible rfl) ?_
      | refine WR.subn rfl (by with_reducible rfl) (by with_reducible rfl) (by omega) ?_
      | (refine WR.decn rfl rfl ?_; dsimp only [List.set])
      | (refine WR.incn rfl rfl ?_; dsimp only [List.set])
      | (refine WR.go rfl rfl ?_; try dsimp only [List.set])
      | refine WR.aIk rfl (by assumption) rfl (by first | with_reducible rfl | with_reducible assumption) (by omega) (by with_reducible assumption) ?_
      | refine WR.aI rfl (by assumption) rfl (by first | with_reducible rfl | with_reducible assumption) (by omega) ?_
      | refine WR.sI rfl (by assumption) rfl (by first | with_reducible rfl | with_reducible assumption) (by omega) ?_
      | refine WR.pI rfl (by assumption) ?_
      | refine WR.rt rfl rfl rfl rfl ?_
      | refine WR.rz rfl rfl (by decide) ?_)
  refine WR.S1i rfl rfl (k_slot d I hs) ?_
  rw [c_cav]
  iterate 2 (first
      | (with_reducible refine WR.lt (by omega) (by omega) (fun _ => ?_) (fun _ => ?_) <;> try (exfalso; omega))
      | (with_reducible refine WR.le (by omega) (by omega) (fun _ => ?_) (fun _ => ?_) <;> try (exfalso; omega))
      | (with_reducible refine WR.eq (by omega) (by omega) (fun _ => ?_) (fun _ => ?_) <;> try (exfalso; omega))
      | (with_reducible refine WR.ne (by omega) (by omega) (fun _ => ?_) (fun _ => ?_) <;> try (exfalso; omega))
      | with_reducible refine WR.lt0 (by omega) ?_
      | with_reducible refine WR.ge0 (by omega) ?_
      | (with_reducible refine WR.bz (fun _ => ?_) (fun _ => ?_) <;> try contradiction)
      | (with_reducible refine WR.bn (fun _ => ?_) (fun _ => ?_) <;> try contradiction)
      | (with_reducible refine WR.br (fun _ => ?_) (fun _ => ?_) <;> try contradiction)
      | refine WR.gIk rfl (by assumption) (by with_reducible assumption) ?_
      | refine WR.gI rfl (by assumption) ?_
      | refine WR.gR rfl (by assumption) (by assumption) ?_
      | refine WR.gN rfl (by assumption) (by assumption) ?_
      | refine WR.gL rfl (by assumption) ?_
      | refine WR.addn rfl (by with_reducible rfl) (by with_reducible rfl) ?_
      | refine WR.muln rfl (by with_reducible rfl) (by with_reducible rfl) ?_
      | refine WR.subn rfl (by with_reducible rfl) (by with_reducible rfl) (by omega) ?_
      | (refine WR.decn rfl rfl ?_; dsimp only [List.set])
      | (refine WR.incn rfl rfl ?_; dsimp only [List.set])
      | (refine WR.go rfl rfl ?_; try dsimp only [List.set])
      | refine WR.aIk rfl (by assumption) rfl (by first | with_reducible rfl | with_reducible assumption) (by omega) (by with_reducible assumption) ?_
      | refine WR.aI rfl (by assumption) rfl (by first | with_reducible rfl | with_reducible assumption) (by omega) ?_
      | refine WR.sI rfl (by assumption) rfl (by first | with_reducible rfl | with_reducible assumption) (by omega) ?_
      | refine WR.pI rfl (by assumption) ?_
      | refine WR.rt rfl rfl rfl rfl ?_
      | refine WR.rz rfl rfl (by decide) ?_)
  · rename_i h
    rw [h]
    repeat' (first
      | (with_reducible refine WR.lt (by omega) (by omega) (fun _ => ?_) (fun _ => ?_) <;> try (exfalso; omega))
      | (with_reducible refine WR.le (by omega) (by omega) (fun _ => ?_) (fun _ => ?_) <;> try (exfalso; omega))
      | (with_reducible refine WR.eq (by omega) (by omega) (fun _ => ?_) (fun _ => ?_) <;> try (exfalso; omega))
      | (with_reducible refine WR.ne (by omega) (by omega) (fun _ => ?_) (fun _ => ?_) <;> try (exfalso; omega))
      | with_reducible refine WR.lt0 (by omega) ?_
      | with_reducible refine WR.ge0 (by omega) ?_
      | (with_reducible refine WR.bz (fun _ => ?_) (fun _ => ?_) <;> try contradiction)
      | (with_reducible refine WR.bn (fun _ => ?_) (fun _ => ?_) <;> try contradiction)
      | (with_reducible refine WR.br (fun _ => ?_) (fun _ => ?_) <;> try contradiction)
      | refine WR.gIk rfl (by assumption) (by with_reducible assumption) ?_
      | refine WR.gI rfl (by assumption) ?_
      | refine WR.gR rfl (by assumption) (by assumption) ?_
      | refine WR.gN rfl (by assumption) (by assumption) ?_
      | refine WR.gL rfl (by assumption) ?_
      | refine WR.addn rfl (by with_reducible rfl) (by with_reducible rfl) ?_
      | refine WR.muln rfl (by with_reducible rfl) (by with_reducible rfl) ?_
      | refine WR.subn rfl (by with_reducible rfl) (by with_reducible rfl) (by omega) ?_
      | (refine WR.decn rfl rfl ?_; dsimp only [List.set])
      | (refine WR.incn rfl rfl ?_; dsimp only [List.set])
      | (refine WR.go rfl rfl ?_; try dsimp only [List.set])
      | refine WR.aIk rfl (by assumption) rfl (by first | with_reducible rfl | with_reducible assumption) (by omega) (by with_reducible assumption) ?_
      | refine WR.aI rfl (by assumption) rfl (by first | with_reducible rfl | with_reducible assumption) (by omega) ?_
      | refine WR.sI rfl (by assumption) rfl (by first | with_reducible rfl | with_reducible assumption) (by omega) ?_
      | refine WR.pI rfl (by assumption) ?_
      | refine WR.rt rfl rfl rfl rfl ?_
      | refine WR.rz rfl rfl (by decide) ?_)
    exact ⟨rfl, rfl⟩
  · rename_i h
    rw [h]
    have h' := c_sl_t.mp h
    repeat' (first
      | (with_reducible refine WR.lt (by omega) (by omega) (fun _ => ?_) (fun _ => ?_) <;> try (exfalso; omega))
      | (with_reducible refine WR.le (by omega) (by omega) (fun _ => ?_) (fun _ => ?_) <;> try (exfalso; omega))
      | (with_reducible refine WR.eq (by omega) (by omega) (fun _ => ?_) (fun _ => ?_) <;> try (exfalso; omega))
      | (with_reducible refine WR.ne (by omega) (by omega) (fun _ => ?_) (fun _ => ?_) <;> try (exfalso; omega))
      | with_reducible refine WR.lt0 (by omega) ?_
      | with_reducible refine WR.ge0 (by omega) ?_
      | (with_reducible refine WR.bz (fun _ => ?_) (fun _ => ?_) <;> try contradiction)
      | (with_reducible refine WR.bn (fun _ => ?_) (fun _ => ?_) <;> try contradiction)
      | (with_reducible refine WR.br (fun _ => ?_) (fun _ => ?_) <;> try contradiction)
      | refine WR.gIk rfl (by assumption) (by with_reducible assumption) ?_
      | refine WR.gI rfl (by assumption) ?_
      | refine WR.gR rfl (by assumption) (by assumption) ?_
      | refine WR.gN rfl (by assumption) (by assumption) ?_
      | refine WR.gL rfl (by assumption) ?_
      | refine WR.addn rfl (by with_reducible rfl) (by with_reducible rfl) ?_
      | refine WR.muln rfl (by with_reducible rfl) (by with_reducible rfl) ?_
      | refine WR.subn rfl (by with_reducible rfl) (by with_reducible rfl) (by omega) ?_
      | (refine WR.decn rfl rfl ?_; dsimp only [List.set])
      | (refine WR.incn rfl rfl ?_; dsimp only [List.set])
      | (refine WR.go rfl rfl ?_; try dsimp only [List.set])
      | refine WR.aIk rfl (by assumption) rfl (by first | with_reducible rfl | with_reducible assumption) (by omega) (by with_reducible assumption) ?_
      | refine WR.aI rfl (by assumption) rfl (by first | with_reducible rfl | with_reducible assumption) (by omega) ?_
      | refine WR.sI rfl (by assumption) rfl (by first | with_reducible rfl | with_reducible assumption) (by omega) ?_
      | refine WR.pI rfl (by assumption) ?_
      | refine WR.rt rfl rfl rfl rfl ?_
      | refine WR.rz rfl rfl (by decide) ?_)
    exact ⟨rfl, rfl⟩
set_option maxHeartbeats 1000000 in
theorem k_cvoters (d : Nat) (I : xI) {c s : Nat} (hs : s < 2 ^ 31) (hc : caK Z c) : ER Z (d + 2) 3 I [.ref c, .int (nI s)] (fun I' v => I' = I ∧ v = some (.int (c_cvf I c s))) := by
  obtain ⟨c1, c2, c3, c4, c5, c6, c7⟩ := hc
  refine ER.of (ls := [some (.ref c), some (.int (nI s))]) rfl rfl ?_
  iterate 1 (first
      | (with_reducible refine WR.lt (by omega) (by omega) (fun _ => ?_) (fun _ => ?_) <;> try (exfalso; omega))
      | (with_reducible refine WR.le (by omega) (by omega) (fun _ => ?_) (fun _ => ?_) <;> try (exfalso; omega))
      | (with_reducible refine WR.eq (by omega) (by omega) (fun _ => ?_) (fun _ => ?_) <;> try (exfalso; omega))
      | (with_reducible refine WR.ne (by omega) (by omega) (fun _ => ?_) (fun _ => ?_) <;> try (exfalso; omega))
      | with_reducible refine WR.lt0 (by omega) ?_
      | with_reducible refine WR.ge0 (by omega) ?_
      | (with_reducible refine WR.bz (fun _ => ?_) (fun _ => ?_) <;> try contradiction)
      | (with_reducible refine WR.bn (fun _ => ?_) (fun _ => ?_) <;> try contradiction)
      | (with_reducible refine WR.br (fun _ => ?_) (fun _ => ?_) <;> try contradiction)
      | refine WR.gIk rfl (by assumption) (by with_reducible assumption) ?_
      | refine WR.gI rfl (by assumption) ?_
      | refine WR.gR rfl (by assumption) (by assumption) ?_
      | refine WR.gN rfl (by assumption) (by assumption) ?_
      | refine WR.gL rfl (by assumption) ?_
      | refine WR.addn rfl (by with_reducible rfl) (by with_reducible rfl) ?_
      | refine WR.muln rfl (by with_reducible rfl) (by with_reducible rfl) ?_
      | refine WR.subn rfl (by with_reducible rfl) (by with_reducible rfl) (by omega) ?_
      | (refine WR.decn rfl rfl ?_; dsimp only [List.set])
      | (refine WR.incn rfl rfl ?_; dsimp only [List.set])
      | (refine WR.go rfl rfl ?_; try dsimp only [List.set])
      | refine WR.aIk rfl (by assumption) rfl (by first | with_reducible rfl | with_reducible assumption) (by omega) (by with_reducible assumption) ?_
      | refine WR.aI rfl (by assumption) rfl (by first | with_reducible rfl | with_reducible assumption) (by omega) ?_
      | refine WR.sI rfl (by assumption) rfl (by first | with_reducible rfl | with_reducible assumption) (by omega) ?_
      | refine WR.pI rfl (by assumption) ?_
      | refine WR.rt rfl rfl rfl rfl ?_
      | refine WR.rz rfl rfl (by decide) ?_)
  refine WR.S1i rfl rfl (k_slot d I hs) ?_
  rw [c_cvf]
  iterate 2 (first
      | (with_reducible refine WR.lt (by omega) (by omega) (fun _ => ?_) (fun _ => ?_) <;> try (exfalso; omega))
      | (with_reducible refine WR.le (by omega) (by omega) (fun _ => ?_) (fun _ => ?_) <;> try (exfalso; omega))
      | (with_reducible refine WR.eq (by omega) (by omega) (fun _ => ?_) (fun _ => ?_) <;> try (exfalso; omega))
      | (with_reducible refine WR.ne (by omega) (by omega) (fun _ => ?_) (fun _ => ?_) <;> try (exfalso; omega))
      | with_reducible refine WR.lt0 (by omega) ?_
      | with_reducible refine WR.ge0 (by omega) ?_
      | (with_reducible refine WR.bz (fun _ => ?_) (fun _ => ?_) <;> try contradiction)
      | (with_reducible refine WR.bn (fun _ => ?_) (fun _ => ?_) <;> try contradiction)
      | (with_reducible refine WR.br (fun _ => ?_) (fun _ => ?_) <;> try contradiction)
      | refine WR.gIk rfl (by assumption) (by with_reducible assumption) ?_
      | refine WR.gI rfl (by assumption) ?_
      | refine WR.gR rfl (by assumption) (by assumption) ?_
      | refine WR.gN rfl (by assumption) (by assumption) ?_
      | refine WR.gL rfl (by assumption) ?_
      | refine WR.addn rfl (by with_reducible rfl) (by with_reducible rfl) ?_
      | refine WR.muln rfl (by with_reducible rfl) (by with_reducible rfl) ?_
      | refine WR.subn rfl (by with_reducible rfl) (by with_reducible rfl) (by omega) ?_
      | (refine WR.decn rfl rfl ?_; dsimp only [List.set])
      | (refine WR.incn rfl rfl ?_; dsimp only [List.set])
      | (refine WR.go rfl rfl ?_; try dsimp only [List.set])
      | refine WR.aIk rfl (by assumption) rfl (by first | with_reducible rfl | with_reducible assumption) (by omega) (by with_reducible assumption) ?_
      | refine WR.aI rfl (by assumption) rfl (by first | with_reducible rfl | with_reducible assumption) (by omega) ?_
      | refine WR.sI rfl (by assumption) rfl (by first | with_reducible rfl | with_reducible assumption) (by omega) ?_
      | refine WR.pI rfl (by assumption) ?_
      | refine WR.rt rfl rfl rfl rfl ?_
      | refine WR.rz rfl rfl (by decide) ?_)
  · rename_i h
    rw [h]
    repeat' (first
      | (with_reducible refine WR.lt (by omega) (by omega) (fun _ => ?_) (fun _ => ?_) <;> try (exfalso; omega))
      | (with_reducible refine WR.le (by omega) (by omega) (fun _ => ?_) (fun _ => ?_) <;> try (exfalso; omega))
      | (with_reducible refine WR.eq (by omega) (by omega) (fun _ => ?_) (fun _ => ?_) <;> try (exfalso; omega))
      | (with_reducible refine WR.ne (by omega) (by omega) (fun _ => ?_) (fun _ => ?_) <;> try (exfalso; omega))
      | with_reducible refine WR.lt0 (by omega) ?_
      | with_reducible refine WR.ge0 (by omega) ?_
      | (with_reducible refine WR.bz (fun _ => ?_) (fun _ => ?_) <;> try contradiction)
      | (with_reducible refine WR.bn (fun _ => ?_) (fun _ => ?_) <;> try contradiction)
      | (with_reducible refine WR.br (fun _ => ?_) (fun _ => ?_) <;> try contradiction)
      | refine WR.gIk rfl (by assumption) (by with_reducible assumption) ?_
      | refine WR.gI rfl (by assumption) ?_
      | refine WR.gR rfl (by assumption) (by assumption) ?_
      | refine WR.gN rfl (by assumption) (by assumption) ?_
      | refine WR.gL rfl (by assumption) ?_
      | refine WR.addn rfl (by with_reducible rfl) (by with_reducible rfl) ?_
      | refine WR.muln rfl (by with_reducible rfl) (by with_reducible rfl) ?_
      | refine WR.subn rfl (by with_reducible rfl) (by with_reducible rfl) (by omega) ?_
      | (refine WR.decn rfl rfl ?_; dsimp only [List.set])
      | (refine WR.incn rfl rfl ?_; dsimp only [List.set])
      | (refine WR.go rfl rfl ?_; try dsimp only [List.set])
      | refine WR.aIk rfl (by assumption) rfl (by first | with_reducible rfl | with_reducible assumption) (by omega) (by with_reducible assumption) ?_
      | refine WR.aI rfl (by assumption) rfl (by first | with_reducible rfl | with_reducible assumption) (by omega) ?_
      | refine WR.sI rfl (by assumption) rfl (by first | with_reducible rfl | with_reducible assumption) (by omega) ?_
      | refine WR.pI rfl (by assumption) ?_
      | refine WR.rt rfl rfl rfl rfl ?_
      | refine WR.rz rfl rfl (by decide) ?_)
    exact ⟨rfl, rfl⟩
  · rename_i h
    rw [h]
    have h' := c_sl_t.mp h
    repeat' (first
      | (with_reducible refine WR.lt (by omega) (by omega) (fun _ => ?_) (fun _ => ?_) <;> try (exfalso; omega))
      | (with_reducible refine WR.le (by omega) (by omega) (fun _ => ?_) (fun _ => ?_) <;> try (exfalso; omega))
      | (with_reducible refine WR.eq (by omega) (by omega) (fun _ => ?_) (fun _ => ?_) <;> try (exfalso; omega))
      | (with_reducible refine WR.ne (by omega) (by omega) (fun _ => ?_) (fun _ => ?_) <;> try (exfalso; omega))
      | with_reducible refine WR.lt0 (by omega) ?_
      | with_reducible refine WR.ge0 (by omega) ?_
      | (with_reducible refine WR.bz (fun _ => ?_) (fun _ => ?_) <;> try contradiction)
      | (with_reducible refine WR.bn (fun _ => ?_) (fun _ => ?_) <;> try contradiction)
      | (with_reducible refine WR.br (fun _ => ?_) (fun _ => ?_) <;> try contradiction)
      | refine WR.gIk rfl (by assumption) (by with_reducible assumption) ?_
      | refine WR.gI rfl (by assumption) ?_
      | refine WR.gR rfl (by assumption) (by assumption) ?_
      | refine WR.gN rfl (by assumption) (by assumption) ?_
      | refine WR.gL rfl (by assumption) ?_
      | refine WR.addn rfl (by with_reducible rfl) (by with_reducible rfl) ?_
      | refine WR.muln rfl (by with_reducible rfl) (by with_reducible rfl) ?_
      | refine WR.subn rfl (by with_reducible rfl) (by with_reducible rfl) (by omega) ?_
      | (refine WR.decn rfl rfl ?_; dsimp only [List.set])
      | (refine WR.incn rfl rfl ?_; dsimp only [List.set])
      | (refine WR.go rfl rfl ?_; try dsimp only [List.set])
      | refine WR.aIk rfl (by assumption) rfl (by first | with_reducible rfl | with_reducible assumption) (by omega) (by with_reducible assumption) ?_
      | refine WR.aI rfl (by assumption) rfl (by first | with_reducible rfl | with_reducible assumption) (by omega) ?_
      | refine WR.sI rfl (by assumption) rfl (by first | with_reducible rfl | with_reducible assumption) (by omega) ?_
      | refine WR.pI rfl (by assumption) ?_
      | refine WR.rt rfl rfl rfl rfl ?_
      | refine WR.rz rfl rfl (by decide) ?_)
    exact ⟨rfl, rfl⟩
set_option maxHeartbeats 1000000 in
theorem k_cbegin (d : Nat) (I : xI) {c w : Nat} (b m : Int32) (hw : vtK Z w) (hd : w + 2 < c) (hc : caK Z c) : ER Z (d + 5) 4 I [.ref c, .int b, .int m, .ref w] (fun I' v => I' = c_cbg I c w b m ∧ v = none) := by
  obtain ⟨c1, c2, c3, c4, c5, c6, c7⟩ := hc
  refine ER.of (ls := [some (.ref c), some (.int b), some (.int m), some (.ref w)]) rfl rfl ?_
  repeat' ((with_reducible fail_if_success show WR _ _ _ 16 _ _ _ _); (first
      | (with_reducible refine WR.lt (by omega) (by omega) (fun _ => ?_) (fun _ => ?_) <;> try (exfalso; omega))
      | (with_reducible refine WR.le (by omega) (by omega) (fun _ => ?_) (fun _ => ?_) <;> try (exfalso; omega))
      | (with_reducible refine WR.eq (by omega) (by omega) (fun _ => ?_) (fun _ => ?_) <;> try (exfalso; omega))
      | (with_reducible refine WR.ne (by omega) (by omega) (fun _ => ?_) (fun _ => ?_) <;> try (exfalso; omega))
      | with_reducible refine WR.lt0 (by omega) ?_
      | with_reducible refine WR.ge0 (by omega) ?_
      | (with_reducible refine WR.bz (fun _ => ?_) (fun _ => ?_) <;> try contradiction)
      | (with_reducible refine WR.bn (fun _ => ?_) (fun _ => ?_) <;> try contradiction)
      | (with_reducible refine WR.br (fun _ => ?_) (fun _ => ?_) <;> try contradiction)
      | refine WR.gIk rfl (by assumption) (by with_reducible assumption) ?_
      | refine WR.gI rfl (by assumption) ?_
      | refine WR.gR rfl (by assumption) (by assumption) ?_
      | refine WR.gN rfl (by assumption) (by assumption) ?_
      | refine WR.gL rfl (by assumption) ?_
      | refine WR.addn rfl (by with_reducible rfl) (by with_reducible rfl) ?_
      | refine WR.muln rfl (by with_reducible rfl) (by with_reducible rfl) ?_
      | refine WR.subn rfl (by with_reducible rfl) (by with_reducible rfl) (by omega) ?_
      | (refine WR.decn rfl rfl ?_; dsimp only [List.set])
      | (refine WR.incn rfl rfl ?_; dsimp only [List.set])
      | (refine WR.go rfl rfl ?_; try dsimp only [List.set])
      | refine WR.aIk rfl (by assumption) rfl (by first | with_reducible rfl | with_reducible assumption) (by omega) (by with_reducible assumption) ?_
      | refine WR.aI rfl (by assumption) rfl (by first | with_reducible rfl | with_reducible assumption) (by omega) ?_
      | refine WR.sI rfl (by assumption) rfl (by first | with_reducible rfl | with_reducible assumption) (by omega) ?_
      | refine WR.pI rfl (by assumption) ?_
      | refine WR.rt rfl rfl rfl rfl ?_
      | refine WR.rz rfl rfl (by decide) ?_))
  refine WR.C1v rfl c5.1 rfl (k_vforget (d + 3) _ (by decide) c5) ?_
  repeat' ((with_reducible fail_if_success show WR _ _ _ 24 _ _ _ _); (first
      | (with_reducible refine WR.lt (by omega) (by omega) (fun _ => ?_) (fun _ => ?_) <;> try (exfalso; omega))
      | (with_reducible refine WR.le (by omega) (by omega) (fun _ => ?_) (fun _ => ?_) <;> try (exfalso; omega))
      | (with_reducible refine WR.eq (by omega) (by omega) (fun _ => ?_) (fun _ => ?_) <;> try (exfalso; omega))
      | (with_reducible refine WR.ne (by omega) (by omega) (fun _ => ?_) (fun _ => ?_) <;> try (exfalso; omega))
      | with_reducible refine WR.lt0 (by omega) ?_
      | with_reducible refine WR.ge0 (by omega) ?_
      | (with_reducible refine WR.bz (fun _ => ?_) (fun _ => ?_) <;> try contradiction)
      | (with_reducible refine WR.bn (fun _ => ?_) (fun _ => ?_) <;> try contradiction)
      | (with_reducible refine WR.br (fun _ => ?_) (fun _ => ?_) <;> try contradiction)
      | refine WR.gIk rfl (by assumption) (by with_reducible assumption) ?_
      | refine WR.gI rfl (by assumption) ?_
      | refine WR.gR rfl (by assumption) (by assumption) ?_
      | refine WR.gN rfl (by assumption) (by assumption) ?_
      | refine WR.gL rfl (by assumption) ?_
      | refine WR.addn rfl (by with_reducible rfl) (by with_reducible rfl) ?_
      | refine WR.muln rfl (by with_reducible rfl) (by with_reducible rfl) ?_
      | refine WR.subn rfl (by with_reducible rfl) (by with_reducible rfl) (by omega) ?_
      | (refine WR.decn rfl rfl ?_; dsimp only [List.set])
      | (refine WR.incn rfl rfl ?_; dsimp only [List.set])
      | (refine WR.go rfl rfl ?_; try dsimp only [List.set])
      | refine WR.aIk rfl (by assumption) rfl (by first | with_reducible rfl | with_reducible assumption) (by omega) (by with_reducible assumption) ?_
      | refine WR.aI rfl (by assumption) rfl (by first | with_reducible rfl | with_reducible assumption) (by omega) ?_
      | refine WR.sI rfl (by assumption) rfl (by first | with_reducible rfl | with_reducible assumption) (by omega) ?_
      | refine WR.pI rfl (by assumption) ?_
      | refine WR.rt rfl rfl rfl rfl ?_
      | refine WR.rz rfl rfl (by decide) ?_))
  refine WR.C1v rfl c5.1 rfl (k_vmerge d _ (by omega) c5 hw) ?_
  repeat' ((with_reducible fail_if_success show WR _ _ _ 33 _ _ _ _); (first
      | (with_reducible refine WR.lt (by omega) (by omega) (fun _ => ?_) (fun _ => ?_) <;> try (exfalso; omega))
      | (with_reducible refine WR.le (by omega) (by omega) (fun _ => ?_) (fun _ => ?_) <;> try (exfalso; omega))
      | (with_reducible refine WR.eq (by omega) (by omega) (fun _ => ?_) (fun _ => ?_) <;> try (exfalso; omega))
      | (with_reducible refine WR.ne (by omega) (by omega) (fun _ => ?_) (fun _ => ?_) <;> try (exfalso; omega))
      | with_reducible refine WR.lt0 (by omega) ?_
      | with_reducible refine WR.ge0 (by omega) ?_
      | (with_reducible refine WR.bz (fun _ => ?_) (fun _ => ?_) <;> try contradiction)
      | (with_reducible refine WR.bn (fun _ => ?_) (fun _ => ?_) <;> try contradiction)
      | (with_reducible refine WR.br (fun _ => ?_) (fun _ => ?_) <;> try contradiction)
      | refine WR.gIk rfl (by assumption) (by with_reducible assumption) ?_
      | refine WR.gI rfl (by assumption) ?_
      | refine WR.gR rfl (by assumption) (by assumption) ?_
      | refine WR.gN rfl (by assumption) (by assumption) ?_
      | refine WR.gL rfl (by assumption) ?_
      | refine WR.addn rfl (by with_reducible rfl) (by with_reducible rfl) ?_
      | refine WR.muln rfl (by with_reducible rfl) (by with_reducible rfl) ?_
      | refine WR.subn rfl (by with_reducible rfl) (by with_reducible rfl) (by omega) ?_
      | (refine WR.decn rfl rfl ?_; dsimp only [List.set])
      | (refine WR.incn rfl rfl ?_; dsimp only [List.set])
      | (refine WR.go rfl rfl ?_; try dsimp only [List.set])
      | refine WR.aIk rfl (by assumption) rfl (by first | with_reducible rfl | with_reducible assumption) (by omega) (by with_reducible assumption) ?_
      | refine WR.aI rfl (by assumption) rfl (by first | with_reducible rfl | with_reducible assumption) (by omega) ?_
      | refine WR.sI rfl (by assumption) rfl (by first | with_reducible rfl | with_reducible assumption) (by omega) ?_
      | refine WR.pI rfl (by assumption) ?_
      | refine WR.rt rfl rfl rfl rfl ?_
      | refine WR.rz rfl rfl (by decide) ?_))
  refine WR.C1v rfl c6.1 rfl (k_cforget (d + 3) _ (by decide) c6) ?_
  repeat' (first
      | (with_reducible refine WR.lt (by omega) (by omega) (fun _ => ?_) (fun _ => ?_) <;> try (exfalso; omega))
      | (with_reducible refine WR.le (by omega) (by omega) (fun _ => ?_) (fun _ => ?_) <;> try (exfalso; omega))
      | (with_reducible refine WR.eq (by omega) (by omega) (fun _ => ?_) (fun _ => ?_) <;> try (exfalso; omega))
      | (with_reducible refine WR.ne (by omega) (by omega) (fun _ => ?_) (fun _ => ?_) <;> try (exfalso; omega))
      | with_reducible refine WR.lt0 (by omega) ?_
      | with_reducible refine WR.ge0 (by omega) ?_
      | (with_reducible refine WR.bz (fun _ => ?_) (fun _ => ?_) <;> try contradiction)
      | (with_reducible refine WR.bn (fun _ => ?_) (fun _ => ?_) <;> try contradiction)
      | (with_reducible refine WR.br (fun _ => ?_) (fun _ => ?_) <;> try contradiction)
      | refine WR.gIk rfl (by assumption) (by with_reducible assumption) ?_
      | refine WR.gI rfl (by assumption) ?_
      | refine WR.gR rfl (by assumption) (by assumption) ?_
      | refine WR.gN rfl (by assumption) (by assumption) ?_
      | refine WR.gL rfl (by assumption) ?_
      | refine WR.addn rfl (by with_reducible rfl) (by with_reducible rfl) ?_
      | refine WR.muln rfl (by with_reducible rfl) (by with_reducible rfl) ?_
      | refine WR.subn rfl (by with_reducible rfl) (by with_reducible rfl) (by omega) ?_
      | (refine WR.decn rfl rfl ?_; dsimp only [List.set])
      | (refine WR.incn rfl rfl ?_; dsimp only [List.set])
      | (refine WR.go rfl rfl ?_; try dsimp only [List.set])
      | refine WR.aIk rfl (by assumption) rfl (by first | with_reducible rfl | with_reducible assumption) (by omega) (by with_reducible assumption) ?_
      | refine WR.aI rfl (by assumption) rfl (by first | with_reducible rfl | with_reducible assumption) (by omega) ?_
      | refine WR.sI rfl (by assumption) rfl (by first | with_reducible rfl | with_reducible assumption) (by omega) ?_
      | refine WR.pI rfl (by assumption) ?_
      | refine WR.rt rfl rfl rfl rfl ?_
      | refine WR.rz rfl rfl (by decide) ?_)
  exact ⟨rfl, rfl⟩
set_option maxHeartbeats 1000000 in
theorem k_cend (d : Nat) (I : xI) {c : Nat} (hc : caK Z c) : ER Z (d + 1) 5 I [.ref c] (fun I' v => I' = x_u I c 0 (-1) ∧ v = none) := by
  obtain ⟨c1, c2, c3, c4, c5, c6, c7⟩ := hc
  refine ER.of (ls := [some (.ref c)]) rfl rfl ?_
  repeat' (first
      | (with_reducible refine WR.lt (by omega) (by omega) (fun _ => ?_) (fun _ => ?_) <;> try (exfalso; omega))
      | (with_reducible refine WR.le (by omega) (by omega) (fun _ => ?_) (fun _ => ?_) <;> try (exfalso; omega))
      | (with_reducible refine WR.eq (by omega) (by omega) (fun _ => ?_) (fun _ => ?_) <;> try (exfalso; omega))
      | (with_reducible refine WR.ne (by omega) (by omega) (fun _ => ?_) (fun _ => ?_) <;> try (exfalso; omega))
      | with_reducible refine WR.lt0 (by omega) ?_
      | with_reducible refine WR.ge0 (by omega) ?_
      | (with_reducible refine WR.bz (fun _ => ?_) (fun _ => ?_) <;> try contradiction)
      | (with_reducible refine WR.bn (fun _ => ?_) (fun _ => ?_) <;> try contradiction)
      | (with_reducible refine WR.br (fun _ => ?_) (fun _ => ?_) <;> try contradiction)
      | refine WR.gIk rfl (by assumption) (by with_reducible assumption) ?_
      | refine WR.gI rfl (by assumption) ?_
      | refine WR.gR rfl (by assumption) (by assumption) ?_
      | refine WR.gN rfl (by assumption) (by assumption) ?_
      | refine WR.gL rfl (by assumption) ?_
      | refine WR.addn rfl (by with_reducible rfl) (by with_reducible rfl) ?_
      | refine WR.muln rfl (by with_reducible rfl) (by with_reducible rfl) ?_
      | refine WR.subn rfl (by with_reducible rfl) (by with_reducible rfl) (by omega) ?_
      | (refine WR.decn rfl rfl ?_; dsimp only [List.set])
      | (refine WR.incn rfl rfl ?_; dsimp only [List.set])
      | (refine WR.go rfl rfl ?_; try dsimp only [List.set])
      | refine WR.aIk rfl (by assumption) rfl (by first | with_reducible rfl | with_reducible assumption) (by omega) (by with_reducible assumption) ?_
      | refine WR.aI rfl (by assumption) rfl (by first | with_reducible rfl | with_reducible assumption) (by omega) ?_
      | refine WR.sI rfl (by assumption) rfl (by first | with_reducible rfl | with_reducible assumption) (by omega) ?_
      | refine WR.pI rfl (by assumption) ?_
      | refine WR.rt rfl rfl rfl rfl ?_
      | refine WR.rz rfl rfl (by decide) ?_)
  exact ⟨rfl, rfl⟩
end CAMP
