/-! the class: messages, net, client as they are read; the least ballot above -/
def c_fd (x : Int32) : Int32 := if 0 ≤ x ^^^ nI 5 then x / nI 5 else if x / nI 5 * nI 5 = x then x / nI 5 else x / nI 5 - nI 1
def c_lb (p r : Int32) : Int32 := nI 5 * (if c_fd (p - r) + nI 1 < nI 1 then nI 1 else c_fd (p - r) + nI 1) + r
theorem c_lb_s : ∀ p, p < 4 → ∀ r, r < 5 → p < r → c_lb (nI p) (nI r) = nI (f_bal p r) := by decide +kernel
theorem c_lb_n {p r : Nat} (hp : p ≤ 400000) (hr : r < 5) : c_lb (nI p) (nI r) = nI (f_bal p r) := by
  by_cases h : p < r
  · exact c_lb_s p (by omega) r hr h
  · have h' : r ≤ p := by omega
    have hx : (p - r) ^^^ 5 < 2 ^ 31 := Nat.xor_lt_two_pow (by omega) (by decide)
    have e : c_fd (nI (p - r)) = nI ((p - r) / 5) := by
      rw [c_fd, nx_xor, if_pos (nI_pos' hx)]
      exact pk_div (by omega) (by decide) (by decide)
    rw [c_lb, pk_sub h', e, nI_add, if_neg (fun q => by rw [nI_ltI (by omega) (by decide)] at q; omega), pk_mul, nI_add]
    congr 1
    rw [f_bal]
    omega
def c_mnum (I : xI) (m : Nat) : Int32 := if I m 0 = nI 1 ∨ I m 0 = nI 2 ∨ I m 0 = nI 6 then I m 3 else I m 4
def ntK (Z : xZ) : Prop := Z.1[3]? = some (false, 4, 2) ∧ Z.2.2 3 0 = some 4 ∧ Z.1[4]? = some (true, 3, 32)
def clK (Z : xZ) : Prop := Z.1[1]? = some (false, 1, 2) ∧ Z.2.2 1 0 = some 2 ∧ Z.1[2]? = some (true, 2, 41)
section NETS
variable {Z : xZ}
set_option maxHeartbeats 1000000 in
theorem k_fdiv (d : Nat) (I : xI) (x : Int32) : ER Z (d + 1) 143 I [.int x, .int (nI 5)] (fun I' v => I' = I ∧ v = some (.int (c_fd x))) := by
  refine ER.of (ls := [some (.int x), some (.int (nI 5)), none]) rfl rfl ?_
  iterate 2 (first
      | (with_reducible refine WR.lt (by omega) (by omega) (fun _ => ?_) (fun _ => ?_) <;> try (exfalso; omega))
      | (with_reducible refine WR.le (by omega) (by omega) (fun _ => ?_) (fun _ => ?_) <;> try (exfalso; omega))
      | (with_reducible refine WR.eq (by omega) (by omega) (fun _ => ?_) (fun _ => ?_) <;> try (exfalso; omega))
      | (with_reducible refine WR.ne (by omega) (by omega) (fun _ => ?_) (fun _ => ?_) <;> try (exfalso; omega))
      | with_reducible refine WR.lt0 (by omega) ?_
      | with_reducible refine WR.ge0 (by omega) ?_
      | (with_reducible refine WR.bz (fun _ => ?_) (fun _ => ?_) <;> try contradiction)
      | (with_reducible refine WR.bn (fun _ => ?_) (fun _ => ?_) <;> try contradiction)
      | (with_reducible refine WR.br (fun _ => ?_) (fun _ => ?_) <;> try contradiction)
      | refine WR.gIk rfl (by assumption) (by with_reducible assumption) ?_
      | refine WR.gI rfl (by assumption) ?_
      | refine WR.gR rfl (by assumption) (by assumption) ?_
      | refine WR.gN rfl (by assumption) (by assumption) ?_
      | refine WR.gL rfl (by assumption) ?_
      | refine WR.addn rfl (by with_reducible rfl) (by with_reducible rfl) ?_
      | refine WR.muln rfl (by with_reducible rfl) (by with_reducible rfl) ?_
      | refine WR.subn rfl (by with_reducible rfl) (by with_reducible rfl) (by omega) ?_
      | (refine WR.decn rfl rfl ?_; dsimp only [List.set])
      | (refine WR.incn rfl rfl ?_; dsimp only [List.set])
      | (refine WR.go rfl rfl ?_; try dsimp only [List.set])
      | refine WR.aIk rfl (by assumption) rfl (by first | with_reducible rfl | with_reducible assumption) (by omega) (by with_reducible assumption) ?_
      | refine WR.aI rfl (by assumption) rfl (by first | with_reducible rfl | with_reducible assumption) (by omega) ?_
      | refine WR.sI rfl (by assumption) rfl (by first | with_reducible rfl | with_reducible assumption) (by omega) ?_
      | refine WR.pI rfl (by assumption) ?_
      | refine WR.rt rfl rfl rfl rfl ?_
      | refine WR.rz rfl rfl (by decide) ?_)
  refine WR.go (pc' := 3) (ls' := [some (.int x), some (.int (nI 5)), none]) (st' := [.int (x / nI 5)]) rfl rfl ?_
  rw [c_fd]
  repeat' ((with_reducible fail_if_success show WR _ _ _ 17 _ _ _ _); (first
      | (with_reducible refine WR.lt (by omega) (by omega) (fun _ => ?_) (fun _ => ?_) <;> try (exfalso; omega))
      | (with_reducible refine WR.le (by omega) (by omega) (fun _ => ?_) (fun _ => ?_) <;> try (exfalso; omega))
      | (with_reducible refine WR.eq (by omega) (by omega) (fun _ => ?_) (fun _ => ?_) <;> try (exfalso; omega))
      | (with_reducible refine WR.ne (by omega) (by omega) (fun _ => ?_) (fun _ => ?_) <;> try (exfalso; omega))
      | with_reducible refine WR.lt0 (by omega) ?_
      | with_reducible refine WR.ge0 (by omega) ?_
      | (with_reducible refine WR.bz (fun _ => ?_) (fun _ => ?_) <;> try contradiction)
      | (with_reducible refine WR.bn (fun _ => ?_) (fun _ => ?_) <;> try contradiction)
      | (with_reducible refine WR.br (fun _ => ?_) (fun _ => ?_) <;> try contradiction)
      | refine WR.gIk rfl (by assumption) (by with_reducible assumption) ?_
      | refine WR.gI rfl (by assumption) ?_
      | refine WR.gR rfl (by assumption) (by assumption) ?_
      | refine WR.gN rfl (by assumption) (by assumption) ?_
      | refine WR.gL rfl (by assumption) ?_
      | refine WR.addn rfl (by with_reducible rfl) (by with_reducible rfl) ?_
      | refine WR.muln rfl (by with_reducible rfl) (by with_reducible rfl) ?_
      | refine WR.subn rfl (by with_reducible rfl) (by with_reducible rfl) (by omega) ?_
      | (refine WR.decn rfl rfl ?_; dsimp only [List.set])
      | (refine WR.incn rfl rfl ?_; dsimp only [List.set])
      | (refine WR.go rfl rfl ?_; try dsimp only [List.set])
      | refine WR.aIk rfl (by assumption) rfl (by first | with_reducible rfl | with_reducible assumption) (by omega) (by with_reducible assumption) ?_
      | refine WR.aI rfl (by assumption) rfl (by first | with_reducible rfl | with_reducible assumption) (by omega) ?_
      | refine WR.sI rfl (by assumption) rfl (by first | with_reducible rfl | with_reducible assumption) (by omega) ?_
      | refine WR.pI rfl (by assumption) ?_
      | refine WR.rt rfl rfl rfl rfl ?_
      | refine WR.rz rfl rfl (by decide) ?_))
  · rename_i h
    exact ⟨rfl, by rw [if_pos h]⟩
  · rename_i h h2
    exact ⟨rfl, by rw [if_neg h, if_pos h2]⟩
  · rename_i h h2
    repeat' (first
      | (with_reducible refine WR.lt (by omega) (by omega) (fun _ => ?_) (fun _ => ?_) <;> try (exfalso; omega))
      | (with_reducible refine WR.le (by omega) (by omega) (fun _ => ?_) (fun _ => ?_) <;> try (exfalso; omega))
      | (with_reducible refine WR.eq (by omega) (by omega) (fun _ => ?_) (fun _ => ?_) <;> try (exfalso; omega))
      | (with_reducible refine WR.ne (by omega) (by omega) (fun _ => ?_) (fun _ => ?_) <;> try (exfalso; omega))
      | with_reducible refine WR.lt0 (by omega) ?_
      | with_reducible refine WR.ge0 (by omega) ?_
      | (with_reducible refine WR.bz (fun _ => ?_) (fun _ => ?_) <;> try contradiction)
      | (with_reducible refine WR.bn (fun _ => ?_) (fun _ => ?_) <;> try contradiction)
      | (with_reducible refine WR.br (fun _ => ?_) (fun _ => ?_) <;> try contradiction)
      | refine WR.gIk rfl (by assumption) (by with_reducible assumption) ?_
      | refine WR.gI rfl (by assumption) ?_
      | refine WR.gR rfl (by assumption) (by assumption) ?_
      | refine WR.gN rfl (by assumption) (by assumption) ?_
      | refine WR.gL rfl (by assumption) ?_
      | refine WR.addn rfl (by with_reducible rfl) (by with_reducible rfl) ?_
      | refine WR.muln rfl (by with_reducible rfl) (by with_reducible rfl) ?_
      | refine WR.subn rfl (by with_reducible rfl) (by with_reducible rfl) (by omega) ?_
      | (refine WR.decn rfl rfl ?_; dsimp only [List.set])
      | (refine WR.incn rfl rfl ?_; dsimp only [List.set])
      | (refine WR.go rfl rfl ?_; try dsimp only [List.set])
      | refine WR.aIk rfl (by assumption) rfl (by first | with_reducible rfl | with_reducible assumption) (by omega) (by with_reducible assumption) ?_
      | refine WR.aI rfl (by assumption) rfl (by first | with_reducible rfl | with_reducible assumption) (by omega) ?_
      | refine WR.sI rfl (by assumption) rfl (by first | with_reducible rfl | with_reducible assumption) (by omega) ?_
      | refine WR.pI rfl (by assumption) ?_
      | refine WR.rt rfl rfl rfl rfl ?_
      | refine WR.rz rfl rfl (by decide) ?_)
    exact ⟨rfl, by rw [if_neg h, if_neg h2]⟩
set_option maxHeartbeats 1000000 in
theorem k_max (d : Nat) (I : xI) (x y : Int32) : ER Z (d + 1) 144 I [.int x, .int y] (fun I' v => I' = I ∧ v = some (.int (if x < y then y else x))) := by
  refine ER.of (ls := [some (.int x), some (.int y)]) rfl rfl ?_
  repeat' (first
      | (with_reducible refine WR.lt (by omega) (by omega) (fun _ => ?_) (fun _ => ?_) <;> try (exfalso; omega))
      | (with_reducible refine WR.le (by omega) (by omega) (fun _ => ?_) (fun _ => ?_) <;> try (exfalso; omega))
      | (with_reducible refine WR.eq (by omega) (by omega) (fun _ => ?_) (fun _ => ?_) <;> try (exfalso; omega))
      | (with_reducible refine WR.ne (by omega) (by omega) (fun _ => ?_) (fun _ => ?_) <;> try (exfalso; omega))
      | with_reducible refine WR.lt0 (by omega) ?_
      | with_reducible refine WR.ge0 (by omega) ?_
      | (with_reducible refine WR.bz (fun _ => ?_) (fun _ => ?_) <;> try contradiction)
      | (with_reducible refine WR.bn (fun _ => ?_) (fun _ => ?_) <;> try contradiction)
      | (with_reducible refine WR.br (fun _ => ?_) (fun _ => ?_) <;> try contradiction)
      | refine WR.gIk rfl (by assumption) (by with_reducible assumption) ?_
      | refine WR.gI rfl (by assumption) ?_
      | refine WR.gR rfl (by assumption) (by assumption) ?_
      | refine WR.gN rfl (by assumption) (by assumption) ?_
      | refine WR.gL rfl (by assumption) ?_
      | refine WR.addn rfl (by with_reducible rfl) (by with_reducible rfl) ?_
      | refine WR.muln rfl (by with_reducible rfl) (by with_reducible rfl) ?_
      | refine WR.subn rfl (by with_reducible rfl) (by with_reducible rfl) (by omega) ?_
      | (refine WR.decn rfl rfl ?_; dsimp only [List.set])
      | (refine WR.incn rfl rfl ?_; dsimp only [List.set])
      | (refine WR.go rfl rfl ?_; try dsimp only [List.set])
      | refine WR.aIk rfl (by assumption) rfl (by first | with_reducible rfl | with_reducible assumption) (by omega) (by with_reducible assumption) ?_
      | refine WR.aI rfl (by assumption) rfl (by first | with_reducible rfl | with_reducible assumption) (by omega) ?_
      | refine WR.sI rfl (by assumption) rfl (by first | with_reducible rfl | with_reducible assumption) (by omega) ?_
      | refine WR.pI rfl (by assumption) ?_
      | refine WR.rt rfl rfl rfl rfl ?_
      | refine WR.rz rfl rfl (by decide) ?_)
  · rename_i h
    exact ⟨rfl, by rw [if_pos h]⟩
  · rename_i h
    exact ⟨rfl, by rw [if_neg h]⟩
set_option maxHeartbeats 1000000 in
theorem k_least (d : Nat) (I : xI) {a p r : Nat} (hp : rpK Z a) (hr : I a 0 = nI r) (hr2 : r < 5) (hp2 : p ≤ 400000) : ER Z (d + 2) 37 I [.ref a, .int (nI p)] (fun I' v => I' = I ∧ v = some (.int (nI (f_bal p r)))) := by
  obtain ⟨p1, _⟩ := hp
  rw [← c_lb_n hp2 hr2]
  refine ER.of (ls := [some (.ref a), some (.int (nI p)), none]) rfl rfl ?_
  iterate 3 (first | refine WR.gIk rfl (by assumption) (by with_reducible assumption) ?_ | refine WR.go rfl rfl ?_)
  refine WR.go (pc' := 6) (ls' := [some (.ref a), some (.int (nI p)), none]) (st' := [.int (nI p - nI r)]) rfl rfl ?_
  repeat' ((with_reducible fail_if_success show WR _ _ _ 7 _ _ _ _); (first
      | (with_reducible refine WR.lt (by omega) (by omega) (fun _ => ?_) (fun _ => ?_) <;> try (exfalso; omega))
      | (with_reducible refine WR.le (by omega) (by omega) (fun _ => ?_) (fun _ => ?_) <;> try (exfalso; omega))
      | (with_reducible refine WR.eq (by omega) (by omega) (fun _ => ?_) (fun _ => ?_) <;> try (exfalso; omega))
      | (with_reducible refine WR.ne (by omega) (by omega) (fun _ => ?_) (fun _ => ?_) <;> try (exfalso; omega))
      | with_reducible refine WR.lt0 (by omega) ?_
      | with_reducible refine WR.ge0 (by omega) ?_
      | (with_reducible refine WR.bz (fun _ => ?_) (fun _ => ?_) <;> try contradiction)
      | (with_reducible refine WR.bn (fun _ => ?_) (fun _ => ?_) <;> try contradiction)
      | (with_reducible refine WR.br (fun _ => ?_) (fun _ => ?_) <;> try contradiction)
      | refine WR.gIk rfl (by assumption) (by with_reducible assumption) ?_
      | refine WR.gI rfl (by assumption) ?_
      | refine WR.gR rfl (by assumption) (by assumption) ?_
      | refine WR.gN rfl (by assumption) (by assumption) ?_
      | refine WR.gL rfl (by assumption) ?_
      | refine WR.addn rfl (by with_reducible rfl) (by with_reducible rfl) ?_
      | refine WR.muln rfl (by with_reducible rfl) (by with_reducible rfl) ?_
      | refine WR.subn rfl (by with_reducible rfl) (by with_reducible rfl) (by omega) ?_
      | (refine WR.decn rfl rfl ?_; dsimp only [List.set])
      | (refine WR.incn rfl rfl ?_; dsimp only [List.set])
      | (refine WR.go rfl rfl ?_; try dsimp only [List.set])
      | refine WR.aIk rfl (by assumption) rfl (by first | with_reducible rfl | with_reducible assumption) (by omega) (by with_reducible assumption) ?_
      | refine WR.aI rfl (by assumption) rfl (by first | with_reducible rfl | with_reducible assumption) (by omega) ?_
      | refine WR.sI rfl (by assumption) rfl (by first | with_reducible rfl | with_reducible assumption) (by omega) ?_
      | refine WR.pI rfl (by assumption) ?_
      | refine WR.rt rfl rfl rfl rfl ?_
      | refine WR.rz rfl rfl (by decide) ?_))
  refine WR.S2i rfl rfl (k_fdiv d I _) ?_
  repeat' ((with_reducible fail_if_success show WR _ _ _ 16 _ _ _ _); (first
      | (with_reducible refine WR.lt (by omega) (by omega) (fun _ => ?_) (fun _ => ?_) <;> try (exfalso; omega))
      | (with_reducible refine WR.le (by omega) (by omega) (fun _ => ?_) (fun _ => ?_) <;> try (exfalso; omega))
      | (with_reducible refine WR.eq (by omega) (by omega) (fun _ => ?_) (fun _ => ?_) <;> try (exfalso; omega))
      | (with_reducible refine WR.ne (by omega) (by omega) (fun _ => ?_) (fun _ => ?_) <;> try (exfalso; omega))
      | with_reducible refine WR.lt0 (by omega) ?_
      | with_reducible refine WR.ge0 (by omega) ?_
      | (with_reducible refine WR.bz (fun _ => ?_) (fun _ => ?_) <;> try contradiction)
      | (with_reducible refine WR.bn (fun _ => ?_) (fun _ => ?_) <;> try contradiction)
      | (with_reducible refine WR.br (fun _ => ?_) (fun _ => ?_) <;> try contradiction)
      | refine WR.gIk rfl (by assumption) (by with_reducible assumption) ?_
      | refine WR.gI rfl (by assumption) ?_
      | refine WR.gR rfl (by assumption) (by assumption) ?_
      | refine WR.gN rfl (by assumption) (by assumption) ?_
      | refine WR.gL rfl (by assumption) ?_
      | refine WR.addn rfl (by with_reducible rfl) (by with_reducible rfl) ?_
      | refine WR.muln rfl (by with_reducible rfl) (by with_reducible rfl) ?_
      | refine WR.subn rfl (by with_reducible rfl) (by with_reducible rfl) (by omega) ?_
      | (refine WR.decn rfl rfl ?_; dsimp only [List.set])
      | (refine WR.incn rfl rfl ?_; dsimp only [List.set])
      | (refine WR.go rfl rfl ?_; try dsimp only [List.set])
      | refine WR.aIk rfl (by assumption) rfl (by first | with_reducible rfl | with_reducible assumption) (by omega) (by with_reducible assumption) ?_
      | refine WR.aI rfl (by assumption) rfl (by first | with_reducible rfl | with_reducible assumption) (by omega) ?_
      | refine WR.sI rfl (by assumption) rfl (by first | with_reducible rfl | with_reducible assumption) (by omega) ?_
      | refine WR.pI rfl (by assumption) ?_
      | refine WR.rt rfl rfl rfl rfl ?_
      | refine WR.rz rfl rfl (by decide) ?_))
  refine WR.S2i rfl rfl (k_max d I _ _) ?_
  repeat' (first
      | (with_reducible refine WR.lt (by omega) (by omega) (fun _ => ?_) (fun _ => ?_) <;> try (exfalso; omega))
      | (with_reducible refine WR.le (by omega) (by omega) (fun _ => ?_) (fun _ => ?_) <;> try (exfalso; omega))
      | (with_reducible refine WR.eq (by omega) (by omega) (fun _ => ?_) (fun _ => ?_) <;> try (exfalso; omega))
      | (with_reducible refine WR.ne (by omega) (by omega) (fun _ => ?_) (fun _ => ?_) <;> try (exfalso; omega))
      | with_reducible refine WR.lt0 (by omega) ?_
      | with_reducible refine WR.ge0 (by omega) ?_
      | (with_reducible refine WR.bz (fun _ => ?_) (fun _ => ?_) <;> try contradiction)
      | (with_reducible refine WR.bn (fun _ => ?_) (fun _ => ?_) <;> try contradiction)
      | (with_reducible refine WR.br (fun _ => ?_) (fun _ => ?_) <;> try contradiction)
      | refine WR.gIk rfl (by assumption) (by with_reducible assumption) ?_
      | refine WR.gI rfl (by assumption) ?_
      | refine WR.gR rfl (by assumption) (by assumption) ?_
      | refine WR.gN rfl (by assumption) (by assumption) ?_
      | refine WR.gL rfl (by assumption) ?_
      | refine WR.addn rfl (by with_reducible rfl) (by with_reducible rfl) ?_
      | refine WR.muln rfl (by with_reducible rfl) (by with_reducible rfl) ?_
      | refine WR.subn rfl (by with_reducible rfl) (by with_reducible rfl) (by omega) ?_
      | (refine WR.decn rfl rfl ?_; dsimp only [List.set])
      | (refine WR.incn rfl rfl ?_; dsimp only [List.set])
      | (refine WR.go rfl rfl ?_; try dsimp only [List.set])
      | refine WR.aIk rfl (by assumption) rfl (by first | with_reducible rfl | with_reducible assumption) (by omega) (by with_reducible assumption) ?_
      | refine WR.aI rfl (by assumption) rfl (by first | with_reducible rfl | with_reducible assumption) (by omega) ?_
      | refine WR.sI rfl (by assumption) rfl (by first | with_reducible rfl | with_reducible assumption) (by omega) ?_
      | refine WR.pI rfl (by assumption) ?_
      | refine WR.rt rfl rfl rfl rfl ?_
      | refine WR.rz rfl rfl (by decide) ?_)
  exact ⟨rfl, rfl⟩
set_option maxHeartbeats 1000000 in
theorem k_number (d : Nat) (I : xI) {m : Nat} (hm : Z.1[m]? = some (false, 3, 8)) : ER Z (d + 1) 19 I [.ref m] (fun I' v => I' = I ∧ v = some (.int (c_mnum I m))) := by
  refine ER.of (ls := [some (.ref m)]) rfl rfl ?_
  repeat' (first
      | (with_reducible refine WR.lt (by omega) (by omega) (fun _ => ?_) (fun _ => ?_) <;> try (exfalso; omega))
      | (with_reducible refine WR.le (by omega) (by omega) (fun _ => ?_) (fun _ => ?_) <;> try (exfalso; omega))
      | (with_reducible refine WR.eq (by omega) (by omega) (fun _ => ?_) (fun _ => ?_) <;> try (exfalso; omega))
      | (with_reducible refine WR.ne (by omega) (by omega) (fun _ => ?_) (fun _ => ?_) <;> try (exfalso; omega))
      | with_reducible refine WR.lt0 (by omega) ?_
      | with_reducible refine WR.ge0 (by omega) ?_
      | (with_reducible refine WR.bz (fun _ => ?_) (fun _ => ?_) <;> try contradiction)
      | (with_reducible refine WR.bn (fun _ => ?_) (fun _ => ?_) <;> try contradiction)
      | (with_reducible refine WR.br (fun _ => ?_) (fun _ => ?_) <;> try contradiction)
      | refine WR.gIk rfl (by assumption) (by with_reducible assumption) ?_
      | refine WR.gI rfl (by assumption) ?_
      | refine WR.gR rfl (by assumption) (by assumption) ?_
      | refine WR.gN rfl (by assumption) (by assumption) ?_
      | refine WR.gL rfl (by assumption) ?_
      | refine WR.addn rfl (by with_reducible rfl) (by with_reducible rfl) ?_
      | refine WR.muln rfl (by with_reducible rfl) (by with_reducible rfl) ?_
      | refine WR.subn rfl (by with_reducible rfl) (by with_reducible rfl) (by omega) ?_
      | (refine WR.decn rfl rfl ?_; dsimp only [List.set])
      | (refine WR.incn rfl rfl ?_; dsimp only [List.set])
      | (refine WR.go rfl rfl ?_; try dsimp only [List.set])
      | refine WR.aIk rfl (by assumption) rfl (by first | with_reducible rfl | with_reducible assumption) (by omega) (by with_reducible assumption) ?_
      | refine WR.aI rfl (by assumption) rfl (by first | with_reducible rfl | with_reducible assumption) (by omega) ?_
      | refine WR.sI rfl (by assumption) rfl (by first | with_reducible rfl | with_reducible assumption) (by omega) ?_
      | refine WR.pI rfl (by assumption) ?_
      | refine WR.rt rfl rfl rfl rfl ?_
      | refine WR.rz rfl rfl (by decide) ?_)
  · rename_i h
    exact ⟨rfl, by rw [c_mnum, if_pos (Or.inl h)]⟩
  · rename_i h1 h
    exact ⟨rfl, by rw [c_mnum, if_pos (Or.inr (Or.inl h))]⟩
  · rename_i h1 h2 h
    exact ⟨rfl, by rw [c_mnum, if_neg (fun q => q.elim h1 (fun q => q.elim h2 h))]⟩
  · rename_i h1 h2 h
    exact ⟨rfl, by rw [c_mnum, if_pos (Or.inr (Or.inr (Classical.not_not.mp h)))]⟩
set_option maxHeartbeats 1000000 in
theorem k_load2 (d : Nat) (I : xI) {m v : Nat} (hm : Z.1[m]? = some (false, 3, 8)) (hk : I m 0 = nI 2) (hv : Z.2.2 m 6 = some v) (hv2 : vtK Z v) : ER Z (d + 4) 20 I [.ref m] (fun I' w => I' = I ∧ w = some (.int (nI (c_vn I v 24)))) := by
  refine ER.of (ls := [some (.ref m)]) rfl rfl ?_
  repeat' ((with_reducible fail_if_success show WR _ _ _ 21 _ _ _ _); (first
      | (with_reducible refine WR.lt (by omega) (by omega) (fun _ => ?_) (fun _ => ?_) <;> try (exfalso; omega))
      | (with_reducible refine WR.le (by omega) (by omega) (fun _ => ?_) (fun _ => ?_) <;> try (exfalso; omega))
      | (with_reducible refine WR.eq (by omega) (by omega) (fun _ => ?_) (fun _ => ?_) <;> try (exfalso; omega))
      | (with_reducible refine WR.ne (by omega) (by omega) (fun _ => ?_) (fun _ => ?_) <;> try (exfalso; omega))
      | with_reducible refine WR.lt0 (by omega) ?_
      | with_reducible refine WR.ge0 (by omega) ?_
      | (with_reducible refine WR.bz (fun _ => ?_) (fun _ => ?_) <;> try contradiction)
      | (with_reducible refine WR.bn (fun _ => ?_) (fun _ => ?_) <;> try contradiction)
      | (with_reducible refine WR.br (fun _ => ?_) (fun _ => ?_) <;> try contradiction)
      | refine WR.gIk rfl (by assumption) (by with_reducible assumption) ?_
      | refine WR.gI rfl (by assumption) ?_
      | refine WR.gR rfl (by assumption) (by assumption) ?_
      | refine WR.gN rfl (by assumption) (by assumption) ?_
      | refine WR.gL rfl (by assumption) ?_
      | refine WR.addn rfl (by with_reducible rfl) (by with_reducible rfl) ?_
      | refine WR.muln rfl (by with_reducible rfl) (by with_reducible rfl) ?_
      | refine WR.subn rfl (by with_reducible rfl) (by with_reducible rfl) (by omega) ?_
      | (refine WR.decn rfl rfl ?_; dsimp only [List.set])
      | (refine WR.incn rfl rfl ?_; dsimp only [List.set])
      | (refine WR.go rfl rfl ?_; try dsimp only [List.set])
      | refine WR.aIk rfl (by assumption) rfl (by first | with_reducible rfl | with_reducible assumption) (by omega) (by with_reducible assumption) ?_
      | refine WR.aI rfl (by assumption) rfl (by first | with_reducible rfl | with_reducible assumption) (by omega) ?_
      | refine WR.sI rfl (by assumption) rfl (by first | with_reducible rfl | with_reducible assumption) (by omega) ?_
      | refine WR.pI rfl (by assumption) ?_
      | refine WR.rt rfl rfl rfl rfl ?_
      | refine WR.rz rfl rfl (by decide) ?_))
  refine WR.C1i rfl hv2.1 rfl (k_vcount d I (by decide) hv2) ?_
  repeat' (first
      | (with_reducible refine WR.lt (by omega) (by omega) (fun _ => ?_) (fun _ => ?_) <;> try (exfalso; omega))
      | (with_reducible refine WR.le (by omega) (by omega) (fun _ => ?_) (fun _ => ?_) <;> try (exfalso; omega))
      | (with_reducible refine WR.eq (by omega) (by omega) (fun _ => ?_) (fun _ => ?_) <;> try (exfalso; omega))
      | (with_reducible refine WR.ne (by omega) (by omega) (fun _ => ?_) (fun _ => ?_) <;> try (exfalso; omega))
      | with_reducible refine WR.lt0 (by omega) ?_
      | with_reducible refine WR.ge0 (by omega) ?_
      | (with_reducible refine WR.bz (fun _ => ?_) (fun _ => ?_) <;> try contradiction)
      | (with_reducible refine WR.bn (fun _ => ?_) (fun _ => ?_) <;> try contradiction)
      | (with_reducible refine WR.br (fun _ => ?_) (fun _ => ?_) <;> try contradiction)
      | refine WR.gIk rfl (by assumption) (by with_reducible assumption) ?_
      | refine WR.gI rfl (by assumption) ?_
      | refine WR.gR rfl (by assumption) (by assumption) ?_
      | refine WR.gN rfl (by assumption) (by assumption) ?_
      | refine WR.gL rfl (by assumption) ?_
      | refine WR.addn rfl (by with_reducible rfl) (by with_reducible rfl) ?_
      | refine WR.muln rfl (by with_reducible rfl) (by with_reducible rfl) ?_
      | refine WR.subn rfl (by with_reducible rfl) (by with_reducible rfl) (by omega) ?_
      | (refine WR.decn rfl rfl ?_; dsimp only [List.set])
      | (refine WR.incn rfl rfl ?_; dsimp only [List.set])
      | (refine WR.go rfl rfl ?_; try dsimp only [List.set])
      | refine WR.aIk rfl (by assumption) rfl (by first | with_reducible rfl | with_reducible assumption) (by omega) (by with_reducible assumption) ?_
      | refine WR.aI rfl (by assumption) rfl (by first | with_reducible rfl | with_reducible assumption) (by omega) ?_
      | refine WR.sI rfl (by assumption) rfl (by first | with_reducible rfl | with_reducible assumption) (by omega) ?_
      | refine WR.pI rfl (by assumption) ?_
      | refine WR.rt rfl rfl rfl rfl ?_
      | refine WR.rz rfl rfl (by decide) ?_)
  exact ⟨rfl, rfl⟩
set_option maxHeartbeats 1000000 in
theorem k_load8 (d : Nat) (I : xI) {m v : Nat} (hm : Z.1[m]? = some (false, 3, 8)) (hk : I m 0 = nI 8) (hv : Z.2.2 m 7 = some v) (hv2 : stK Z v) : ER Z (d + 4) 20 I [.ref m] (fun I' w => I' = I ∧ w = some (.int (x_bc (Z.2.1 v 3)))) := by
  refine ER.of (ls := [some (.ref m)]) rfl rfl ?_
  repeat' ((with_reducible fail_if_success show WR _ _ _ 45 _ _ _ _); (first
      | (with_reducible refine WR.lt (by omega) (by omega) (fun _ => ?_) (fun _ => ?_) <;> try (exfalso; omega))
      | (with_reducible refine WR.le (by omega) (by omega) (fun _ => ?_) (fun _ => ?_) <;> try (exfalso; omega))
      | (with_reducible refine WR.eq (by omega) (by omega) (fun _ => ?_) (fun _ => ?_) <;> try (exfalso; omega))
      | (with_reducible refine WR.ne (by omega) (by omega) (fun _ => ?_) (fun _ => ?_) <;> try (exfalso; omega))
      | with_reducible refine WR.lt0 (by omega) ?_
      | with_reducible refine WR.ge0 (by omega) ?_
      | (with_reducible refine WR.bz (fun _ => ?_) (fun _ => ?_) <;> try contradiction)
      | (with_reducible refine WR.bn (fun _ => ?_) (fun _ => ?_) <;> try contradiction)
      | (with_reducible refine WR.br (fun _ => ?_) (fun _ => ?_) <;> try contradiction)
      | refine WR.gIk rfl (by assumption) (by with_reducible assumption) ?_
      | refine WR.gI rfl (by assumption) ?_
      | refine WR.gR rfl (by assumption) (by assumption) ?_
      | refine WR.gN rfl (by assumption) (by assumption) ?_
      | refine WR.gL rfl (by assumption) ?_
      | refine WR.addn rfl (by with_reducible rfl) (by with_reducible rfl) ?_
      | refine WR.muln rfl (by with_reducible rfl) (by with_reducible rfl) ?_
      | refine WR.subn rfl (by with_reducible rfl) (by with_reducible rfl) (by omega) ?_
      | (refine WR.decn rfl rfl ?_; dsimp only [List.set])
      | (refine WR.incn rfl rfl ?_; dsimp only [List.set])
      | (refine WR.go rfl rfl ?_; try dsimp only [List.set])
      | refine WR.aIk rfl (by assumption) rfl (by first | with_reducible rfl | with_reducible assumption) (by omega) (by with_reducible assumption) ?_
      | refine WR.aI rfl (by assumption) rfl (by first | with_reducible rfl | with_reducible assumption) (by omega) ?_
      | refine WR.sI rfl (by assumption) rfl (by first | with_reducible rfl | with_reducible assumption) (by omega) ?_
      | refine WR.pI rfl (by assumption) ?_
      | refine WR.rt rfl rfl rfl rfl ?_
      | refine WR.rz rfl rfl (by decide) ?_))
  refine WR.C0i rfl hv2.1 rfl (k_ndone (d + 1) I hv2) ?_
  repeat' (first
      | (with_reducible refine WR.lt (by omega) (by omega) (fun _ => ?_) (fun _ => ?_) <;> try (exfalso; omega))
      | (with_reducible refine WR.le (by omega) (by omega) (fun _ => ?_) (fun _ => ?_) <;> try (exfalso; omega))
      | (with_reducible refine WR.eq (by omega) (by omega) (fun _ => ?_) (fun _ => ?_) <;> try (exfalso; omega))
      | (with_reducible refine WR.ne (by omega) (by omega) (fun _ => ?_) (fun _ => ?_) <;> try (exfalso; omega))
      | with_reducible refine WR.lt0 (by omega) ?_
      | with_reducible refine WR.ge0 (by omega) ?_
      | (with_reducible refine WR.bz (fun _ => ?_) (fun _ => ?_) <;> try contradiction)
      | (with_reducible refine WR.bn (fun _ => ?_) (fun _ => ?_) <;> try contradiction)
      | (with_reducible refine WR.br (fun _ => ?_) (fun _ => ?_) <;> try contradiction)
      | refine WR.gIk rfl (by assumption) (by with_reducible assumption) ?_
      | refine WR.gI rfl (by assumption) ?_
      | refine WR.gR rfl (by assumption) (by assumption) ?_
      | refine WR.gN rfl (by assumption) (by assumption) ?_
      | refine WR.gL rfl (by assumption) ?_
      | refine WR.addn rfl (by with_reducible rfl) (by with_reducible rfl) ?_
      | refine WR.muln rfl (by with_reducible rfl) (by with_reducible rfl) ?_
      | refine WR.subn rfl (by with_reducible rfl) (by with_reducible rfl) (by omega) ?_
      | (refine WR.decn rfl rfl ?_; dsimp only [List.set])
      | (refine WR.incn rfl rfl ?_; dsimp only [List.set])
      | (refine WR.go rfl rfl ?_; try dsimp only [List.set])
      | refine WR.aIk rfl (by assumption) rfl (by first | with_reducible rfl | with_reducible assumption) (by omega) (by with_reducible assumption) ?_
      | refine WR.aI rfl (by assumption) rfl (by first | with_reducible rfl | with_reducible assumption) (by omega) ?_
      | refine WR.sI rfl (by assumption) rfl (by first | with_reducible rfl | with_reducible assumption) (by omega) ?_
      | refine WR.pI rfl (by assumption) ?_
      | refine WR.rt rfl rfl rfl rfl ?_
      | refine WR.rz rfl rfl (by decide) ?_)
  exact ⟨rfl, rfl⟩
set_option maxHeartbeats 1000000 in
theorem k_load0 (d : Nat) (I : xI) {m k : Nat} (hm : Z.1[m]? = some (false, 3, 8)) (hk : I m 0 = nI k) (hk2 : k < 100) (h2 : k ≠ 2) (h8 : k ≠ 8) : ER Z (d + 4) 20 I [.ref m] (fun I' w => I' = I ∧ w = some (.int (nI 0))) := by
  refine ER.of (ls := [some (.ref m)]) rfl rfl ?_
  repeat' (first
      | (with_reducible refine WR.lt (by omega) (by omega) (fun _ => ?_) (fun _ => ?_) <;> try (exfalso; omega))
      | (with_reducible refine WR.le (by omega) (by omega) (fun _ => ?_) (fun _ => ?_) <;> try (exfalso; omega))
      | (with_reducible refine WR.eq (by omega) (by omega) (fun _ => ?_) (fun _ => ?_) <;> try (exfalso; omega))
      | (with_reducible refine WR.ne (by omega) (by omega) (fun _ => ?_) (fun _ => ?_) <;> try (exfalso; omega))
      | with_reducible refine WR.lt0 (by omega) ?_
      | with_reducible refine WR.ge0 (by omega) ?_
      | (with_reducible refine WR.bz (fun _ => ?_) (fun _ => ?_) <;> try contradiction)
      | (with_reducible refine WR.bn (fun _ => ?_) (fun _ => ?_) <;> try contradiction)
      | (with_reducible refine WR.br (fun _ => ?_) (fun _ => ?_) <;> try contradiction)
      | refine WR.gIk rfl (by assumption) (by with_reducible assumption) ?_
      | refine WR.gI rfl (by assumption) ?_
      | refine WR.gR rfl (by assumption) (by assumption) ?_
      | refine WR.gN rfl (by assumption) (by assumption) ?_
      | refine WR.gL rfl (by assumption) ?_
      | refine WR.addn rfl (by with_reducible rfl) (by with_reducible rfl) ?_
      | refine WR.muln rfl (by with_reducible rfl) (by with_reducible rfl) ?_
      | refine WR.subn rfl (by with_reducible rfl) (by with_reducible rfl) (by omega) ?_
      | (refine WR.decn rfl rfl ?_; dsimp only [List.set])
      | (refine WR.incn rfl rfl ?_; dsimp only [List.set])
      | (refine WR.go rfl rfl ?_; try dsimp only [List.set])
      | refine WR.aIk rfl (by assumption) rfl (by first | with_reducible rfl | with_reducible assumption) (by omega) (by with_reducible assumption) ?_
      | refine WR.aI rfl (by assumption) rfl (by first | with_reducible rfl | with_reducible assumption) (by omega) ?_
      | refine WR.sI rfl (by assumption) rfl (by first | with_reducible rfl | with_reducible assumption) (by omega) ?_
      | refine WR.pI rfl (by assumption) ?_
      | refine WR.rt rfl rfl rfl rfl ?_
      | refine WR.rz rfl rfl (by decide) ?_)
  exact ⟨rfl, rfl⟩
set_option maxHeartbeats 1000000 in
theorem k_size (d : Nat) (I : xI) (hn : ntK Z) : ER Z (d + 1) 23 I [.ref 3] (fun I' w => I' = I ∧ w = some (.int (I 3 1))) := by
  obtain ⟨n1, n2, n3⟩ := hn
  refine ER.of (ls := [some (.ref 3)]) rfl rfl ?_
  repeat' (first
      | (with_reducible refine WR.lt (by omega) (by omega) (fun _ => ?_) (fun _ => ?_) <;> try (exfalso; omega))
      | (with_reducible refine WR.le (by omega) (by omega) (fun _ => ?_) (fun _ => ?_) <;> try (exfalso; omega))
      | (with_reducible refine WR.eq (by omega) (by omega) (fun _ => ?_) (fun _ => ?_) <;> try (exfalso; omega))
      | (with_reducible refine WR.ne (by omega) (by omega) (fun _ => ?_) (fun _ => ?_) <;> try (exfalso; omega))
      | with_reducible refine WR.lt0 (by omega) ?_
      | with_reducible refine WR.ge0 (by omega) ?_
      | (with_reducible refine WR.bz (fun _ => ?_) (fun _ => ?_) <;> try contradiction)
      | (with_reducible refine WR.bn (fun _ => ?_) (fun _ => ?_) <;> try contradiction)
      | (with_reducible refine WR.br (fun _ => ?_) (fun _ => ?_) <;> try contradiction)
      | refine WR.gIk rfl (by assumption) (by with_reducible assumption) ?_
      | refine WR.gI rfl (by assumption) ?_
      | refine WR.gR rfl (by assumption) (by assumption) ?_
      | refine WR.gN rfl (by assumption) (by assumption) ?_
      | refine WR.gL rfl (by assumption) ?_
      | refine WR.addn rfl (by with_reducible rfl) (by with_reducible rfl) ?_
      | refine WR.muln rfl (by with_reducible rfl) (by with_reducible rfl) ?_
      | refine WR.subn rfl (by with_reducible rfl) (by with_reducible rfl) (by omega) ?_
      | (refine WR.decn rfl rfl ?_; dsimp only [List.set])
      | (refine WR.incn rfl rfl ?_; dsimp only [List.set])
      | (refine WR.go rfl rfl ?_; try dsimp only [List.set])
      | refine WR.aIk rfl (by assumption) rfl (by first | with_reducible rfl | with_reducible assumption) (by omega) (by with_reducible assumption) ?_
      | refine WR.aI rfl (by assumption) rfl (by first | with_reducible rfl | with_reducible assumption) (by omega) ?_
      | refine WR.sI rfl (by assumption) rfl (by first | with_reducible rfl | with_reducible assumption) (by omega) ?_
      | refine WR.pI rfl (by assumption) ?_
      | refine WR.rt rfl rfl rfl rfl ?_
      | refine WR.rz rfl rfl (by decide) ?_)
  exact ⟨rfl, rfl⟩
set_option maxHeartbeats 1000000 in
theorem k_at (d : Nat) (I : xI) {i w a : Nat} (hn : ntK Z) (hw : I 3 1 = nI w) (hw2 : w ≤ 32) (hi : i < w) (ha : Z.2.2 4 i = some a) : ER Z (d + 1) 25 I [.ref 3, .int (nI i)] (fun I' v => I' = I ∧ v = some (.ref a)) := by
  obtain ⟨n1, n2, n3⟩ := hn
  refine ER.of (ls := [some (.ref 3), some (.int (nI i))]) rfl rfl ?_
  repeat' ((with_reducible fail_if_success show WR _ _ _ 17 _ _ _ _); (first
      | (with_reducible refine WR.lt (by omega) (by omega) (fun _ => ?_) (fun _ => ?_) <;> try (exfalso; omega))
      | (with_reducible refine WR.le (by omega) (by omega) (fun _ => ?_) (fun _ => ?_) <;> try (exfalso; omega))
      | (with_reducible refine WR.eq (by omega) (by omega) (fun _ => ?_) (fun _ => ?_) <;> try (exfalso; omega))
      | (with_reducible refine WR.ne (by omega) (by omega) (fun _ => ?_) (fun _ => ?_) <;> try (exfalso; omega))
      | with_reducible refine WR.lt0 (by omega) ?_
      | with_reducible refine WR.ge0 (by omega) ?_
      | (with_reducible refine WR.bz (fun _ => ?_) (fun _ => ?_) <;> try contradiction)
      | (with_reducible refine WR.bn (fun _ => ?_) (fun _ => ?_) <;> try contradiction)
      | (with_reducible refine WR.br (fun _ => ?_) (fun _ => ?_) <;> try contradiction)
      | refine WR.gIk rfl (by assumption) (by with_reducible assumption) ?_
      | refine WR.gI rfl (by assumption) ?_
      | refine WR.gR rfl (by assumption) (by assumption) ?_
      | refine WR.gN rfl (by assumption) (by assumption) ?_
      | refine WR.gL rfl (by assumption) ?_
      | refine WR.addn rfl (by with_reducible rfl) (by with_reducible rfl) ?_
      | refine WR.muln rfl (by with_reducible rfl) (by with_reducible rfl) ?_
      | refine WR.subn rfl (by with_reducible rfl) (by with_reducible rfl) (by omega) ?_
      | (refine WR.decn rfl rfl ?_; dsimp only [List.set])
      | (refine WR.incn rfl rfl ?_; dsimp only [List.set])
      | (refine WR.go rfl rfl ?_; try dsimp only [List.set])
      | refine WR.aIk rfl (by assumption) rfl (by first | with_reducible rfl | with_reducible assumption) (by omega) (by with_reducible assumption) ?_
      | refine WR.aI rfl (by assumption) rfl (by first | with_reducible rfl | with_reducible assumption) (by omega) ?_
      | refine WR.sI rfl (by assumption) rfl (by first | with_reducible rfl | with_reducible assumption) (by omega) ?_
      | refine WR.pI rfl (by assumption) ?_
      | refine WR.rt rfl rfl rfl rfl ?_
      | refine WR.rz rfl rfl (by decide) ?_))
  refine WR.aQ rfl n3 (by decide) rfl rfl (by omega) ha ?_
  repeat' (first
      | (with_reducible refine WR.lt (by omega) (by omega) (fun _ => ?_) (fun _ => ?_) <;> try (exfalso; omega))
      | (with_reducible refine WR.le (by omega) (by omega) (fun _ => ?_) (fun _ => ?_) <;> try (exfalso; omega))
      | (with_reducible refine WR.eq (by omega) (by omega) (fun _ => ?_) (fun _ => ?_) <;> try (exfalso; omega))
      | (with_reducible refine WR.ne (by omega) (by omega) (fun _ => ?_) (fun _ => ?_) <;> try (exfalso; omega))
      | with_reducible refine WR.lt0 (by omega) ?_
      | with_reducible refine WR.ge0 (by omega) ?_
      | (with_reducible refine WR.bz (fun _ => ?_) (fun _ => ?_) <;> try contradiction)
      | (with_reducible refine WR.bn (fun _ => ?_) (fun _ => ?_) <;> try contradiction)
      | (with_reducible refine WR.br (fun _ => ?_) (fun _ => ?_) <;> try contradiction)
      | refine WR.gIk rfl (by assumption) (by with_reducible assumption) ?_
      | refine WR.gI rfl (by assumption) ?_
      | refine WR.gR rfl (by assumption) (by assumption) ?_
      | refine WR.gN rfl (by assumption) (by assumption) ?_
      | refine WR.gL rfl (by assumption) ?_
      | refine WR.addn rfl (by with_reducible rfl) (by with_reducible rfl) ?_
      | refine WR.muln rfl (by with_reducible rfl) (by with_reducible rfl) ?_
      | refine WR.subn rfl (by with_reducible rfl) (by with_reducible rfl) (by omega) ?_
      | (refine WR.decn rfl rfl ?_; dsimp only [List.set])
      | (refine WR.incn rfl rfl ?_; dsimp only [List.set])
      | (refine WR.go rfl rfl ?_; try dsimp only [List.set])
      | refine WR.aIk rfl (by assumption) rfl (by first | with_reducible rfl | with_reducible assumption) (by omega) (by with_reducible assumption) ?_
      | refine WR.aI rfl (by assumption) rfl (by first | with_reducible rfl | with_reducible assumption) (by omega) ?_
      | refine WR.sI rfl (by assumption) rfl (by first | with_reducible rfl | with_reducible assumption) (by omega) ?_
      | refine WR.pI rfl (by assumption) ?_
      | refine WR.rt rfl rfl rfl rfl ?_
      | refine WR.rz rfl rfl (by decide) ?_)
  exact ⟨rfl, rfl⟩
set_option maxHeartbeats 1000000 in
theorem k_at_n (d : Nat) (I : xI) {x : Int32} {w : Nat} (hn : ntK Z) (hw : I 3 1 = nI w) (hx : x < 0 ∨ nI w ≤ x) : ER Z (d + 1) 25 I [.ref 3, .int x] (fun I' v => I' = I ∧ v = some .null) := by
  obtain ⟨n1, n2, n3⟩ := hn
  refine ER.of (ls := [some (.ref 3), some (.int x)]) rfl rfl ?_
  iterate 3 (first
      | (with_reducible refine WR.lt (by omega) (by omega) (fun _ => ?_) (fun _ => ?_) <;> try (exfalso; omega))
      | (with_reducible refine WR.le (by omega) (by omega) (fun _ => ?_) (fun _ => ?_) <;> try (exfalso; omega))
      | (with_reducible refine WR.eq (by omega) (by omega) (fun _ => ?_) (fun _ => ?_) <;> try (exfalso; omega))
      | (with_reducible refine WR.ne (by omega) (by omega) (fun _ => ?_) (fun _ => ?_) <;> try (exfalso; omega))
      | with_reducible refine WR.lt0 (by omega) ?_
      | with_reducible refine WR.ge0 (by omega) ?_
      | (with_reducible refine WR.bz (fun _ => ?_) (fun _ => ?_) <;> try contradiction)
      | (with_reducible refine WR.bn (fun _ => ?_) (fun _ => ?_) <;> try contradiction)
      | (with_reducible refine WR.br (fun _ => ?_) (fun _ => ?_) <;> try contradiction)
      | refine WR.gIk rfl (by assumption) (by with_reducible assumption) ?_
      | refine WR.gI rfl (by assumption) ?_
      | refine WR.gR rfl (by assumption) (by assumption) ?_
      | refine WR.gN rfl (by assumption) (by assumption) ?_
      | refine WR.gL rfl (by assumption) ?_
      | refine WR.addn rfl (by with_reducible rfl) (by with_reducible rfl) ?_
      | refine WR.muln rfl (by with_reducible rfl) (by with_reducible rfl) ?_
      | refine WR.subn rfl (by with_reducible rfl) (by with_reducible rfl) (by omega) ?_
      | (refine WR.decn rfl rfl ?_; dsimp only [List.set])
      | (refine WR.incn rfl rfl ?_; dsimp only [List.set])
      | (refine WR.go rfl rfl ?_; try dsimp only [List.set])
      | refine WR.aIk rfl (by assumption) rfl (by first | with_reducible rfl | with_reducible assumption) (by omega) (by with_reducible assumption) ?_
      | refine WR.aI rfl (by assumption) rfl (by first | with_reducible rfl | with_reducible assumption) (by omega) ?_
      | refine WR.sI rfl (by assumption) rfl (by first | with_reducible rfl | with_reducible assumption) (by omega) ?_
      | refine WR.pI rfl (by assumption) ?_
      | refine WR.rt rfl rfl rfl rfl ?_
      | refine WR.rz rfl rfl (by decide) ?_)
  · repeat' (first
      | (with_reducible refine WR.lt (by omega) (by omega) (fun _ => ?_) (fun _ => ?_) <;> try (exfalso; omega))
      | (with_reducible refine WR.le (by omega) (by omega) (fun _ => ?_) (fun _ => ?_) <;> try (exfalso; omega))
      | (with_reducible refine WR.eq (by omega) (by omega) (fun _ => ?_) (fun _ => ?_) <;> try (exfalso; omega))
      | (with_reducible refine WR.ne (by omega) (by omega) (fun _ => ?_) (fun _ => ?_) <;> try (exfalso; omega))
      | with_reducible refine WR.lt0 (by omega) ?_
      | with_reducible refine WR.ge0 (by omega) ?_
      | (with_reducible refine WR.bz (fun _ => ?_) (fun _ => ?_) <;> try contradiction)
      | (with_reducible refine WR.bn (fun _ => ?_) (fun _ => ?_) <;> try contradiction)
      | (with_reducible refine WR.br (fun _ => ?_) (fun _ => ?_) <;> try contradiction)
      | refine WR.gIk rfl (by assumption) (by with_reducible assumption) ?_
      | refine WR.gI rfl (by assumption) ?_
      | refine WR.gR rfl (by assumption) (by assumption) ?_
      | refine WR.gN rfl (by assumption) (by assumption) ?_
      | refine WR.gL rfl (by assumption) ?_
      | refine WR.addn rfl (by with_reducible rfl) (by with_reducible rfl) ?_
      | refine WR.muln rfl (by with_reducible rfl) (by with_reducible rfl) ?_
      | refine WR.subn rfl (by with_reducible rfl) (by with_reducible rfl) (by omega) ?_
      | (refine WR.decn rfl rfl ?_; dsimp only [List.set])
      | (refine WR.incn rfl rfl ?_; dsimp only [List.set])
      | (refine WR.go rfl rfl ?_; try dsimp only [List.set])
      | refine WR.aIk rfl (by assumption) rfl (by first | with_reducible rfl | with_reducible assumption) (by omega) (by with_reducible assumption) ?_
      | refine WR.aI rfl (by assumption) rfl (by first | with_reducible rfl | with_reducible assumption) (by omega) ?_
      | refine WR.sI rfl (by assumption) rfl (by first | with_reducible rfl | with_reducible assumption) (by omega) ?_
      | refine WR.pI rfl (by assumption) ?_
      | refine WR.rt rfl rfl rfl rfl ?_
      | refine WR.rz rfl rfl (by decide) ?_)
    exact ⟨rfl, rfl⟩
  · rename_i h
    have h2 := hx.resolve_left h
    iterate 5 (first
      | (with_reducible refine WR.lt (by omega) (by omega) (fun _ => ?_) (fun _ => ?_) <;> try (exfalso; omega))
      | (with_reducible refine WR.le (by omega) (by omega) (fun _ => ?_) (fun _ => ?_) <;> try (exfalso; omega))
      | (with_reducible refine WR.eq (by omega) (by omega) (fun _ => ?_) (fun _ => ?_) <;> try (exfalso; omega))
      | (with_reducible refine WR.ne (by omega) (by omega) (fun _ => ?_) (fun _ => ?_) <;> try (exfalso; omega))
      | with_reducible refine WR.lt0 (by omega) ?_
      | with_reducible refine WR.ge0 (by omega) ?_
      | (with_reducible refine WR.bz (fun _ => ?_) (fun _ => ?_) <;> try contradiction)
      | (with_reducible refine WR.bn (fun _ => ?_) (fun _ => ?_) <;> try contradiction)
      | (with_reducible refine WR.br (fun _ => ?_) (fun _ => ?_) <;> try contradiction)
      | refine WR.gIk rfl (by assumption) (by with_reducible assumption) ?_
      | refine WR.gI rfl (by assumption) ?_
      | refine WR.gR rfl (by assumption) (by assumption) ?_
      | refine WR.gN rfl (by assumption) (by assumption) ?_
      | refine WR.gL rfl (by assumption) ?_
      | refine WR.addn rfl (by with_reducible rfl) (by with_reducible rfl) ?_
      | refine WR.muln rfl (by with_reducible rfl) (by with_reducible rfl) ?_
      | refine WR.subn rfl (by with_reducible rfl) (by with_reducible rfl) (by omega) ?_
      | (refine WR.decn rfl rfl ?_; dsimp only [List.set])
      | (refine WR.incn rfl rfl ?_; dsimp only [List.set])
      | (refine WR.go rfl rfl ?_; try dsimp only [List.set])
      | refine WR.aIk rfl (by assumption) rfl (by first | with_reducible rfl | with_reducible assumption) (by omega) (by with_reducible assumption) ?_
      | refine WR.aI rfl (by assumption) rfl (by first | with_reducible rfl | with_reducible assumption) (by omega) ?_
      | refine WR.sI rfl (by assumption) rfl (by first | with_reducible rfl | with_reducible assumption) (by omega) ?_
      | refine WR.pI rfl (by assumption) ?_
      | refine WR.rt rfl rfl rfl rfl ?_
      | refine WR.rz rfl rfl (by decide) ?_)
    repeat' (first
      | (with_reducible refine WR.lt (by omega) (by omega) (fun _ => ?_) (fun _ => ?_) <;> try (exfalso; omega))
      | (with_reducible refine WR.le (by omega) (by omega) (fun _ => ?_) (fun _ => ?_) <;> try (exfalso; omega))
      | (with_reducible refine WR.eq (by omega) (by omega) (fun _ => ?_) (fun _ => ?_) <;> try (exfalso; omega))
      | (with_reducible refine WR.ne (by omega) (by omega) (fun _ => ?_) (fun _ => ?_) <;> try (exfalso; omega))
      | with_reducible refine WR.lt0 (by omega) ?_
      | with_reducible refine WR.ge0 (by omega) ?_
      | (with_reducible refine WR.bz (fun _ => ?_) (fun _ => ?_) <;> try contradiction)
      | (with_reducible refine WR.bn (fun _ => ?_) (fun _ => ?_) <;> try contradiction)
      | (with_reducible refine WR.br (fun _ => ?_) (fun _ => ?_) <;> try contradiction)
      | refine WR.gIk rfl (by assumption) (by with_reducible assumption) ?_
      | refine WR.gI rfl (by assumption) ?_
      | refine WR.gR rfl (by assumption) (by assumption) ?_
      | refine WR.gN rfl (by assumption) (by assumption) ?_
      | refine WR.gL rfl (by assumption) ?_
      | refine WR.addn rfl (by with_reducible rfl) (by with_reducible rfl) ?_
      | refine WR.muln rfl (by with_reducible rfl) (by with_reducible rfl) ?_
      | refine WR.subn rfl (by with_reducible rfl) (by with_reducible rfl) (by omega) ?_
      | (refine WR.decn rfl rfl ?_; dsimp only [List.set])
      | (refine WR.incn rfl rfl ?_; dsimp only [List.set])
      | (refine WR.go rfl rfl ?_; try dsimp only [List.set])
      | refine WR.aIk rfl (by assumption) rfl (by first | with_reducible rfl | with_reducible assumption) (by omega) (by with_reducible assumption) ?_
      | refine WR.aI rfl (by assumption) rfl (by first | with_reducible rfl | with_reducible assumption) (by omega) ?_
      | refine WR.sI rfl (by assumption) rfl (by first | with_reducible rfl | with_reducible assumption) (by omega) ?_
      | refine WR.pI rfl (by assumption) ?_
      | refine WR.rt rfl rfl rfl rfl ?_
      | refine WR.rz rfl rfl (by decide) ?_)
    exact ⟨rfl, rfl⟩
set_option maxHeartbeats 1000000 in
theorem k_find (d : Nat) (I : xI) {q n a : Nat} (hn : clK Z) (hw : I 1 1 = nI n) (hw2 : n ≤ 40) (h1 : 1 ≤ q) (h2 : q ≤ n) (ha : Z.2.2 2 q = some a) : ER Z (d + 1) 8 I [.ref 1, .int (nI q)] (fun I' v => I' = I ∧ v = some (.ref a)) := by
  obtain ⟨n1, n2, n3⟩ := hn
  refine ER.of (ls := [some (.ref 1), some (.int (nI q))]) rfl rfl ?_
  repeat' ((with_reducible fail_if_success show WR _ _ _ 18 _ _ _ _); (first
      | (with_reducible refine WR.lt (by omega) (by omega) (fun _ => ?_) (fun _ => ?_) <;> try (exfalso; omega))
      | (with_reducible refine WR.le (by omega) (by omega) (fun _ => ?_) (fun _ => ?_) <;> try (exfalso; omega))
      | (with_reducible refine WR.eq (by omega) (by omega) (fun _ => ?_) (fun _ => ?_) <;> try (exfalso; omega))
      | (with_reducible refine WR.ne (by omega) (by omega) (fun _ => ?_) (fun _ => ?_) <;> try (exfalso; omega))
      | with_reducible refine WR.lt0 (by omega) ?_
      | with_reducible refine WR.ge0 (by omega) ?_
      | (with_reducible refine WR.bz (fun _ => ?_) (fun _ => ?_) <;> try contradiction)
      | (with_reducible refine WR.bn (fun _ => ?_) (fun _ => ?_) <;> try contradiction)
      | (with_reducible refine WR.br (fun _ => ?_) (fun _ => ?_) <;> try contradiction)
      | refine WR.gIk rfl (by assumption) (by with_reducible assumption) ?_
      | refine WR.gI rfl (by assumption) ?_
      | refine WR.gR rfl (by assumption) (by assumption) ?_
      | refine WR.gN rfl (by assumption) (by assumption) ?_
      | refine WR.gL rfl (by assumption) ?_
      | refine WR.addn rfl (by with_reducible rfl) (by with_reducible rfl) ?_
      | refine WR.muln rfl (by with_reducible rfl) (by with_reducible rfl) ?_
      | refine WR.subn rfl (by with_reducible rfl) (by with_reducible rfl) (by omega) ?_
      | (refine WR.decn rfl rfl ?_; dsimp only [List.set])
      | (refine WR.incn rfl rfl ?_; dsimp only [List.set])
      | (refine WR.go rfl rfl ?_; try dsimp only [List.set])
      | refine WR.aIk rfl (by assumption) rfl (by first | with_reducible rfl | with_reducible assumption) (by omega) (by with_reducible assumption) ?_
      | refine WR.aI rfl (by assumption) rfl (by first | with_reducible rfl | with_reducible assumption) (by omega) ?_
      | refine WR.sI rfl (by assumption) rfl (by first | with_reducible rfl | with_reducible assumption) (by omega) ?_
      | refine WR.pI rfl (by assumption) ?_
      | refine WR.rt rfl rfl rfl rfl ?_
      | refine WR.rz rfl rfl (by decide) ?_))
  refine WR.aQ rfl n3 (by decide) rfl rfl (by omega) ha ?_
  repeat' (first
      | (with_reducible refine WR.lt (by omega) (by omega) (fun _ => ?_) (fun _ => ?_) <;> try (exfalso; omega))
      | (with_reducible refine WR.le (by omega) (by omega) (fun _ => ?_) (fun _ => ?_) <;> try (exfalso; omega))
      | (with_reducible refine WR.eq (by omega) (by omega) (fun _ => ?_) (fun _ => ?_) <;> try (exfalso; omega))
      | (with_reducible refine WR.ne (by omega) (by omega) (fun _ => ?_) (fun _ => ?_) <;> try (exfalso; omega))
      | with_reducible refine WR.lt0 (by omega) ?_
      | with_reducible refine WR.ge0 (by omega) ?_
      | (with_reducible refine WR.bz (fun _ => ?_) (fun _ => ?_) <;> try contradiction)
      | (with_reducible refine WR.bn (fun _ => ?_) (fun _ => ?_) <;> try contradiction)
      | (with_reducible refine WR.br (fun _ => ?_) (fun _ => ?_) <;> try contradiction)
      | refine WR.gIk rfl (by assumption) (by with_reducible assumption) ?_
      | refine WR.gI rfl (by assumption) ?_
      | refine WR.gR rfl (by assumption) (by assumption) ?_
      | refine WR.gN rfl (by assumption) (by assumption) ?_
      | refine WR.gL rfl (by assumption) ?_
      | refine WR.addn rfl (by with_reducible rfl) (by with_reducible rfl) ?_
      | refine WR.muln rfl (by with_reducible rfl) (by with_reducible rfl) ?_
      | refine WR.subn rfl (by with_reducible rfl) (by with_reducible rfl) (by omega) ?_
      | (refine WR.decn rfl rfl ?_; dsimp only [List.set])
      | (refine WR.incn rfl rfl ?_; dsimp only [List.set])
      | (refine WR.go rfl rfl ?_; try dsimp only [List.set])
      | refine WR.aIk rfl (by assumption) rfl (by first | with_reducible rfl | with_reducible assumption) (by omega) (by with_reducible assumption) ?_
      | refine WR.aI rfl (by assumption) rfl (by first | with_reducible rfl | with_reducible assumption) (by omega) ?_
      | refine WR.sI rfl (by assumption) rfl (by first | with_reducible rfl | with_reducible assumption) (by omega) ?_
      | refine WR.pI rfl (by assumption) ?_
      | refine WR.rt rfl rfl rfl rfl ?_
      | refine WR.rz rfl rfl (by decide) ?_)
  exact ⟨rfl, rfl⟩
set_option maxHeartbeats 1000000 in
theorem k_find_n (d : Nat) (I : xI) {x : Int32} {n : Nat} (hn : clK Z) (hw : I 1 1 = nI n) (hx : x < nI 1 ∨ nI n < x) : ER Z (d + 1) 8 I [.ref 1, .int x] (fun I' v => I' = I ∧ v = some .null) := by
  obtain ⟨n1, n2, n3⟩ := hn
  refine ER.of (ls := [some (.ref 1), some (.int x)]) rfl rfl ?_
  iterate 4 (first
      | (with_reducible refine WR.lt (by omega) (by omega) (fun _ => ?_) (fun _ => ?_) <;> try (exfalso; omega))
      | (with_reducible refine WR.le (by omega) (by omega) (fun _ => ?_) (fun _ => ?_) <;> try (exfalso; omega))
      | (with_reducible refine WR.eq (by omega) (by omega) (fun _ => ?_) (fun _ => ?_) <;> try (exfalso; omega))
      | (with_reducible refine WR.ne (by omega) (by omega) (fun _ => ?_) (fun _ => ?_) <;> try (exfalso; omega))
      | with_reducible refine WR.lt0 (by omega) ?_
      | with_reducible refine WR.ge0 (by omega) ?_
      | (with_reducible refine WR.bz (fun _ => ?_) (fun _ => ?_) <;> try contradiction)
      | (with_reducible refine WR.bn (fun _ => ?_) (fun _ => ?_) <;> try contradiction)
      | (with_reducible refine WR.br (fun _ => ?_) (fun _ => ?_) <;> try contradiction)
      | refine WR.gIk rfl (by assumption) (by with_reducible assumption) ?_
      | refine WR.gI rfl (by assumption) ?_
      | refine WR.gR rfl (by assumption) (by assumption) ?_
      | refine WR.gN rfl (by assumption) (by assumption) ?_
      | refine WR.gL rfl (by assumption) ?_
      | refine WR.addn rfl (by with_reducible rfl) (by with_reducible rfl) ?_
      | refine WR.muln rfl (by with_reducible rfl) (by with_reducible rfl) ?_
      | refine WR.subn rfl (by with_reducible rfl) (by with_reducible rfl) (by omega) ?_
      | (refine WR.decn rfl rfl ?_; dsimp only [List.set])
      | (refine WR.incn rfl rfl ?_; dsimp only [List.set])
      | (refine WR.go rfl rfl ?_; try dsimp only [List.set])
      | refine WR.aIk rfl (by assumption) rfl (by first | with_reducible rfl | with_reducible assumption) (by omega) (by with_reducible assumption) ?_
      | refine WR.aI rfl (by assumption) rfl (by first | with_reducible rfl | with_reducible assumption) (by omega) ?_
      | refine WR.sI rfl (by assumption) rfl (by first | with_reducible rfl | with_reducible assumption) (by omega) ?_
      | refine WR.pI rfl (by assumption) ?_
      | refine WR.rt rfl rfl rfl rfl ?_
      | refine WR.rz rfl rfl (by decide) ?_)
  · repeat' (first
      | (with_reducible refine WR.lt (by omega) (by omega) (fun _ => ?_) (fun _ => ?_) <;> try (exfalso; omega))
      | (with_reducible refine WR.le (by omega) (by omega) (fun _ => ?_) (fun _ => ?_) <;> try (exfalso; omega))
      | (with_reducible refine WR.eq (by omega) (by omega) (fun _ => ?_) (fun _ => ?_) <;> try (exfalso; omega))
      | (with_reducible refine WR.ne (by omega) (by omega) (fun _ => ?_) (fun _ => ?_) <;> try (exfalso; omega))
      | with_reducible refine WR.lt0 (by omega) ?_
      | with_reducible refine WR.ge0 (by omega) ?_
      | (with_reducible refine WR.bz (fun _ => ?_) (fun _ => ?_) <;> try contradiction)
      | (with_reducible refine WR.bn (fun _ => ?_) (fun _ => ?_) <;> try contradiction)
      | (with_reducible refine WR.br (fun _ => ?_) (fun _ => ?_) <;> try contradiction)
      | refine WR.gIk rfl (by assumption) (by with_reducible assumption) ?_
      | refine WR.gI rfl (by assumption) ?_
      | refine WR.gR rfl (by assumption) (by assumption) ?_
      | refine WR.gN rfl (by assumption) (by assumption) ?_
      | refine WR.gL rfl (by assumption) ?_
      | refine WR.addn rfl (by with_reducible rfl) (by with_reducible rfl) ?_
      | refine WR.muln rfl (by with_reducible rfl) (by with_reducible rfl) ?_
      | refine WR.subn rfl (by with_reducible rfl) (by with_reducible rfl) (by omega) ?_
      | (refine WR.decn rfl rfl ?_; dsimp only [List.set])
      | (refine WR.incn rfl rfl ?_; dsimp only [List.set])
      | (refine WR.go rfl rfl ?_; try dsimp only [List.set])
      | refine WR.aIk rfl (by assumption) rfl (by first | with_reducible rfl | with_reducible assumption) (by omega) (by with_reducible assumption) ?_
      | refine WR.aI rfl (by assumption) rfl (by first | with_reducible rfl | with_reducible assumption) (by omega) ?_
      | refine WR.sI rfl (by assumption) rfl (by first | with_reducible rfl | with_reducible assumption) (by omega) ?_
      | refine WR.pI rfl (by assumption) ?_
      | refine WR.rt rfl rfl rfl rfl ?_
      | refine WR.rz rfl rfl (by decide) ?_)
    exact ⟨rfl, rfl⟩
  · rename_i h
    have h2 := hx.resolve_left h
    iterate 5 (first
      | (with_reducible refine WR.lt (by omega) (by omega) (fun _ => ?_) (fun _ => ?_) <;> try (exfalso; omega))
      | (with_reducible refine WR.le (by omega) (by omega) (fun _ => ?_) (fun _ => ?_) <;> try (exfalso; omega))
      | (with_reducible refine WR.eq (by omega) (by omega) (fun _ => ?_) (fun _ => ?_) <;> try (exfalso; omega))
      | (with_reducible refine WR.ne (by omega) (by omega) (fun _ => ?_) (fun _ => ?_) <;> try (exfalso; omega))
      | with_reducible refine WR.lt0 (by omega) ?_
      | with_reducible refine WR.ge0 (by omega) ?_
      | (with_reducible refine WR.bz (fun _ => ?_) (fun _ => ?_) <;> try contradiction)
      | (with_reducible refine WR.bn (fun _ => ?_) (fun _ => ?_) <;> try contradiction)
      | (with_reducible refine WR.br (fun _ => ?_) (fun _ => ?_) <;> try contradiction)
      | refine WR.gIk rfl (by assumption) (by with_reducible assumption) ?_
      | refine WR.gI rfl (by assumption) ?_
      | refine WR.gR rfl (by assumption) (by assumption) ?_
      | refine WR.gN rfl (by assumption) (by assumption) ?_
      | refine WR.gL rfl (by assumption) ?_
      | refine WR.addn rfl (by with_reducible rfl) (by with_reducible rfl) ?_
      | refine WR.muln rfl (by with_reducible rfl) (by with_reducible rfl) ?_
      | refine WR.subn rfl (by with_reducible rfl) (by with_reducible rfl) (by omega) ?_
      | (refine WR.decn rfl rfl ?_; dsimp only [List.set])
      | (refine WR.incn rfl rfl ?_; dsimp only [List.set])
      | (refine WR.go rfl rfl ?_; try dsimp only [List.set])
      | refine WR.aIk rfl (by assumption) rfl (by first | with_reducible rfl | with_reducible assumption) (by omega) (by with_reducible assumption) ?_
      | refine WR.aI rfl (by assumption) rfl (by first | with_reducible rfl | with_reducible assumption) (by omega) ?_
      | refine WR.sI rfl (by assumption) rfl (by first | with_reducible rfl | with_reducible assumption) (by omega) ?_
      | refine WR.pI rfl (by assumption) ?_
      | refine WR.rt rfl rfl rfl rfl ?_
      | refine WR.rz rfl rfl (by decide) ?_)
    repeat' (first
      | (with_reducible refine WR.lt (by omega) (by omega) (fun _ => ?_) (fun _ => ?_) <;> try (exfalso; omega))
      | (with_reducible refine WR.le (by omega) (by omega) (fun _ => ?_) (fun _ => ?_) <;> try (exfalso; omega))
      | (with_reducible refine WR.eq (by omega) (by omega) (fun _ => ?_) (fun _ => ?_) <;> try (exfalso; omega))
      | (with_reducible refine WR.ne (by omega) (by omega) (fun _ => ?_) (fun _ => ?_) <;> try (exfalso; omega))
      | with_reducible refine WR.lt0 (by omega) ?_
      | with_reducible refine WR.ge0 (by omega) ?_
      | (with_reducible refine WR.bz (fun _ => ?_) (fun _ => ?_) <;> try contradiction)
      | (with_reducible refine WR.bn (fun _ => ?_) (fun _ => ?_) <;> try contradiction)
      | (with_reducible refine WR.br (fun _ => ?_) (fun _ => ?_) <;> try contradiction)
      | refine WR.gIk rfl (by assumption) (by with_reducible assumption) ?_
      | refine WR.gI rfl (by assumption) ?_
      | refine WR.gR rfl (by assumption) (by assumption) ?_
      | refine WR.gN rfl (by assumption) (by assumption) ?_
      | refine WR.gL rfl (by assumption) ?_
      | refine WR.addn rfl (by with_reducible rfl) (by with_reducible rfl) ?_
      | refine WR.muln rfl (by with_reducible rfl) (by with_reducible rfl) ?_
      | refine WR.subn rfl (by with_reducible rfl) (by with_reducible rfl) (by omega) ?_
      | (refine WR.decn rfl rfl ?_; dsimp only [List.set])
      | (refine WR.incn rfl rfl ?_; dsimp only [List.set])
      | (refine WR.go rfl rfl ?_; try dsimp only [List.set])
      | refine WR.aIk rfl (by assumption) rfl (by first | with_reducible rfl | with_reducible assumption) (by omega) (by with_reducible assumption) ?_
      | refine WR.aI rfl (by assumption) rfl (by first | with_reducible rfl | with_reducible assumption) (by omega) ?_
      | refine WR.sI rfl (by assumption) rfl (by first | with_reducible rfl | with_reducible assumption) (by omega) ?_
      | refine WR.pI rfl (by assumption) ?_
      | refine WR.rt rfl rfl rfl rfl ?_
      | refine WR.rz rfl rfl (by decide) ?_)
    exact ⟨rfl, rfl⟩
def c_hear (I : xI) (a : Nat) (x : Int32) : xI := x_u (x_u I a 3 x) a 4 (I a 4 + nI 1)
set_option maxHeartbeats 1000000 in
theorem k_hear (d : Nat) (I : xI) {q n a : Nat} (x : Int32) (hn : clK Z) (hw : I 1 1 = nI n) (hw2 : n ≤ 40) (h1 : 1 ≤ q) (h2 : q ≤ n) (ha : Z.2.2 2 q = some a) (hk : Z.1[a]? = some (false, 6, 5)) : ER Z (d + 2) 9 I [.ref 1, .int (nI q), .int x] (fun I' v => I' = c_hear I a x ∧ v = none) := by
  refine ER.of (ls := [some (.ref 1), some (.int (nI q)), some (.int x), none]) rfl rfl ?_
  repeat' ((with_reducible fail_if_success show WR _ _ _ 2 _ _ _ _); (first
      | (with_reducible refine WR.lt (by omega) (by omega) (fun _ => ?_) (fun _ => ?_) <;> try (exfalso; omega))
      | (with_reducible refine WR.le (by omega) (by omega) (fun _ => ?_) (fun _ => ?_) <;> try (exfalso; omega))
      | (with_reducible refine WR.eq (by omega) (by omega) (fun _ => ?_) (fun _ => ?_) <;> try (exfalso; omega))
      | (with_reducible refine WR.ne (by omega) (by omega) (fun _ => ?_) (fun _ => ?_) <;> try (exfalso; omega))
      | with_reducible refine WR.lt0 (by omega) ?_
      | with_reducible refine WR.ge0 (by omega) ?_
      | (with_reducible refine WR.bz (fun _ => ?_) (fun _ => ?_) <;> try contradiction)
      | (with_reducible refine WR.bn (fun _ => ?_) (fun _ => ?_) <;> try contradiction)
      | (with_reducible refine WR.br (fun _ => ?_) (fun _ => ?_) <;> try contradiction)
      | refine WR.gIk rfl (by assumption) (by with_reducible assumption) ?_
      | refine WR.gI rfl (by assumption) ?_
      | refine WR.gR rfl (by assumption) (by assumption) ?_
      | refine WR.gN rfl (by assumption) (by assumption) ?_
      | refine WR.gL rfl (by assumption) ?_
      | refine WR.addn rfl (by with_reducible rfl) (by with_reducible rfl) ?_
      | refine WR.muln rfl (by with_reducible rfl) (by with_reducible rfl) ?_
      | refine WR.subn rfl (by with_reducible rfl) (by with_reducible rfl) (by omega) ?_
      | (refine WR.decn rfl rfl ?_; dsimp only [List.set])
      | (refine WR.incn rfl rfl ?_; dsimp only [List.set])
      | (refine WR.go rfl rfl ?_; try dsimp only [List.set])
      | refine WR.aIk rfl (by assumption) rfl (by first | with_reducible rfl | with_reducible assumption) (by omega) (by with_reducible assumption) ?_
      | refine WR.aI rfl (by assumption) rfl (by first | with_reducible rfl | with_reducible assumption) (by omega) ?_
      | refine WR.sI rfl (by assumption) rfl (by first | with_reducible rfl | with_reducible assumption) (by omega) ?_
      | refine WR.pI rfl (by assumption) ?_
      | refine WR.rt rfl rfl rfl rfl ?_
      | refine WR.rz rfl rfl (by decide) ?_))
  refine WR.C1i rfl hn.1 rfl (k_find d I hn hw hw2 h1 h2 ha) ?_
  repeat' (first
      | (with_reducible refine WR.lt (by omega) (by omega) (fun _ => ?_) (fun _ => ?_) <;> try (exfalso; omega))
      | (with_reducible refine WR.le (by omega) (by omega) (fun _ => ?_) (fun _ => ?_) <;> try (exfalso; omega))
      | (with_reducible refine WR.eq (by omega) (by omega) (fun _ => ?_) (fun _ => ?_) <;> try (exfalso; omega))
      | (with_reducible refine WR.ne (by omega) (by omega) (fun _ => ?_) (fun _ => ?_) <;> try (exfalso; omega))
      | with_reducible refine WR.lt0 (by omega) ?_
      | with_reducible refine WR.ge0 (by omega) ?_
      | (with_reducible refine WR.bz (fun _ => ?_) (fun _ => ?_) <;> try contradiction)
      | (with_reducible refine WR.bn (fun _ => ?_) (fun _ => ?_) <;> try contradiction)
      | (with_reducible refine WR.br (fun _ => ?_) (fun _ => ?_) <;> try contradiction)
      | refine WR.gIk rfl (by assumption) (by with_reducible assumption) ?_
      | refine WR.gI rfl (by assumption) ?_
      | refine WR.gR rfl (by assumption) (by assumption) ?_
      | refine WR.gN rfl (by assumption) (by assumption) ?_
      | refine WR.gL rfl (by assumption) ?_
      | refine WR.addn rfl (by with_reducible rfl) (by with_reducible rfl) ?_
      | refine WR.muln rfl (by with_reducible rfl) (by with_reducible rfl) ?_
      | refine WR.subn rfl (by with_reducible rfl) (by with_reducible rfl) (by omega) ?_
      | (refine WR.decn rfl rfl ?_; dsimp only [List.set])
      | (refine WR.incn rfl rfl ?_; dsimp only [List.set])
      | (refine WR.go rfl rfl ?_; try dsimp only [List.set])
      | refine WR.aIk rfl (by assumption) rfl (by first | with_reducible rfl | with_reducible assumption) (by omega) (by with_reducible assumption) ?_
      | refine WR.aI rfl (by assumption) rfl (by first | with_reducible rfl | with_reducible assumption) (by omega) ?_
      | refine WR.sI rfl (by assumption) rfl (by first | with_reducible rfl | with_reducible assumption) (by omega) ?_
      | refine WR.pI rfl (by assumption) ?_
      | refine WR.rt rfl rfl rfl rfl ?_
      | refine WR.rz rfl rfl (by decide) ?_)
  refine ⟨?_, rfl⟩
  rw [c_hear, x_u_ne _ _ (by omega)]
end NETS
