/-! the class: states and replicas as they are read; messages, net, client -/
def stO (Z : xZ) (I : xI) (p f : Nat) : Prop := stK Z p ∧ I p 0 = nI f ∧ f ≤ 24 ∧ ∀ j, 4 ≤ j → j ≤ 6 → ∃ b, b < 32 ∧ I p j = nI b
theorem c_mo_in {Z : xZ} {I : xI} {p f : Nat} (h : stO Z I p f) (s : Nat) : ∃ b, b < 32 ∧ c_mo I p f s = nI b := by
  rw [c_mo]
  split
  · exact h.2.2.2 6 (by decide) (by decide)
  · split
    · exact h.2.2.2 5 (by decide) (by decide)
    · split
      · exact h.2.2.2 4 (by decide) (by decide)
      · exact ⟨0, by decide, rfl⟩
def c_cmpg (I : xI) (p : Nat) : Bool := decide (I (p + 6) 0 = I p 4)
def c_sup (I : xI) (p q f s : Nat) : Bool := f_maj (I (p + 6) 1) (c_mo I q f s)
def c_opn (I : xI) (p s : Nat) : Bool := c_sl s && !c_ch I (p + 4) s && !c_ch I (p + 10) s
def c_oth (r : Nat) : Int32 := nI 31 &&& ((nI 1 <<< (nI r &&& 31)) ^^^ -1)
def c_foa (I : xI) (p f : Nat) : Nat := if c_opn I p (f + 1) = true then f + 1 else if c_opn I p (f + 2) = true then f + 2 else if c_opn I p (f + 3) = true then f + 3 else 0
def c_due (I : xI) (p q f s : Nat) : Int32 := if (c_cmpg I p && c_opn I p s && c_sup I p q f s) = true then (if c_vh I (p + 7) s = true then c_vc I (p + 7) s else if (c_cha I (p + 4) s (24 - s) || c_va I (p + 7) s (24 - s)) = true then nI 0 else -1) else -1
section STAT
variable {Z : xZ}
set_option maxHeartbeats 2000000 in
theorem k_done (d : Nat) (I : xI) {p q : Nat} (hq : q < 2 ^ 31) (hs : stK Z p) : ER Z (d + 1) 55 I [.ref p, .int (nI q)] (fun I' v => I' = I ∧ v = some (.int (bI (c_dn (Z.2.1 p 3) q)))) := by
  obtain ⟨s1, s2, s3, s4, s5⟩ := hs
  refine ER.of (ls := [some (.ref p), some (.int (nI q))]) rfl rfl ?_
  repeat' ((with_reducible fail_if_success show WR _ _ _ 20 _ _ _ _); (first
      | (with_reducible refine WR.lt (by omega) (by omega) (fun _ => ?_) (fun _ => ?_) <;> try (exfalso; omega))
      | (with_reducible refine WR.le (by omega) (by omega) (fun _ => ?_) (fun _ => ?_) <;> try (exfalso; omega))
      | (with_reducible refine WR.eq (by omega) (by omega) (fun _ => ?_) (fun _ => ?_) <;> try (exfalso; omega))
      | (with_reducible refine WR.ne (by omega) (by omega) (fun _ => ?_) (fun _ => ?_) <;> try (exfalso; omega))
      | with_reducible refine WR.lt0 (by omega) ?_
      | with_reducible refine WR.ge0 (by omega) ?_
      | (with_reducible refine WR.bz (fun _ => ?_) (fun _ => ?_) <;> try contradiction)
      | (with_reducible refine WR.bn (fun _ => ?_) (fun _ => ?_) <;> try contradiction)
      | (with_reducible refine WR.br (fun _ => ?_) (fun _ => ?_) <;> try contradiction)
      | refine WR.gIk rfl (by assumption) (by with_reducible assumption) ?_
      | refine WR.gI rfl (by assumption) ?_
      | refine WR.gR rfl (by assumption) (by assumption) ?_
      | refine WR.gN rfl (by assumption) (by assumption) ?_
      | refine WR.gL rfl (by assumption) ?_
      | refine WR.addn rfl (by with_reducible rfl) (by with_reducible rfl) ?_
      | refine WR.muln rfl (by with_reducible rfl) (by with_reducible rfl) ?_
      | refine WR.subn rfl (by with_reducible rfl) (by with_reducible rfl) (by omega) ?_
      | (refine WR.decn rfl rfl ?_; dsimp only [List.set])
      | (refine WR.incn rfl rfl ?_; dsimp only [List.set])
      | (refine WR.go rfl rfl ?_; try dsimp only [List.set])
      | refine WR.aIk rfl (by assumption) rfl (by first | with_reducible rfl | with_reducible assumption) (by omega) (by with_reducible assumption) ?_
      | refine WR.aI rfl (by assumption) rfl (by first | with_reducible rfl | with_reducible assumption) (by omega) ?_
      | refine WR.sI rfl (by assumption) rfl (by first | with_reducible rfl | with_reducible assumption) (by omega) ?_
      | refine WR.pI rfl (by assumption) ?_
      | refine WR.rt rfl rfl rfl rfl ?_
      | refine WR.rz rfl rfl (by decide) ?_))
  · repeat' (first
      | (with_reducible refine WR.lt (by omega) (by omega) (fun _ => ?_) (fun _ => ?_) <;> try (exfalso; omega))
      | (with_reducible refine WR.le (by omega) (by omega) (fun _ => ?_) (fun _ => ?_) <;> try (exfalso; omega))
      | (with_reducible refine WR.eq (by omega) (by omega) (fun _ => ?_) (fun _ => ?_) <;> try (exfalso; omega))
      | (with_reducible refine WR.ne (by omega) (by omega) (fun _ => ?_) (fun _ => ?_) <;> try (exfalso; omega))
      | with_reducible refine WR.lt0 (by omega) ?_
      | with_reducible refine WR.ge0 (by omega) ?_
      | (with_reducible refine WR.bz (fun _ => ?_) (fun _ => ?_) <;> try contradiction)
      | (with_reducible refine WR.bn (fun _ => ?_) (fun _ => ?_) <;> try contradiction)
      | (with_reducible refine WR.br (fun _ => ?_) (fun _ => ?_) <;> try contradiction)
      | refine WR.gIk rfl (by assumption) (by with_reducible assumption) ?_
      | refine WR.gI rfl (by assumption) ?_
      | refine WR.gR rfl (by assumption) (by assumption) ?_
      | refine WR.gN rfl (by assumption) (by assumption) ?_
      | refine WR.gL rfl (by assumption) ?_
      | refine WR.addn rfl (by with_reducible rfl) (by with_reducible rfl) ?_
      | refine WR.muln rfl (by with_reducible rfl) (by with_reducible rfl) ?_
      | refine WR.subn rfl (by with_reducible rfl) (by with_reducible rfl) (by omega) ?_
      | (refine WR.decn rfl rfl ?_; dsimp only [List.set])
      | (refine WR.incn rfl rfl ?_; dsimp only [List.set])
      | (refine WR.go rfl rfl ?_; try dsimp only [List.set])
      | refine WR.aIk rfl (by assumption) rfl (by first | with_reducible rfl | with_reducible assumption) (by omega) (by with_reducible assumption) ?_
      | refine WR.aI rfl (by assumption) rfl (by first | with_reducible rfl | with_reducible assumption) (by omega) ?_
      | refine WR.sI rfl (by assumption) rfl (by first | with_reducible rfl | with_reducible assumption) (by omega) ?_
      | refine WR.pI rfl (by assumption) ?_
      | refine WR.rt rfl rfl rfl rfl ?_
      | refine WR.rz rfl rfl (by decide) ?_)
    exact ⟨rfl, by rw [c_dn, decide_eq_false (by omega)]; rfl⟩
  · repeat' (first
      | (with_reducible refine WR.lt (by omega) (by omega) (fun _ => ?_) (fun _ => ?_) <;> try (exfalso; omega))
      | (with_reducible refine WR.le (by omega) (by omega) (fun _ => ?_) (fun _ => ?_) <;> try (exfalso; omega))
      | (with_reducible refine WR.eq (by omega) (by omega) (fun _ => ?_) (fun _ => ?_) <;> try (exfalso; omega))
      | (with_reducible refine WR.ne (by omega) (by omega) (fun _ => ?_) (fun _ => ?_) <;> try (exfalso; omega))
      | with_reducible refine WR.lt0 (by omega) ?_
      | with_reducible refine WR.ge0 (by omega) ?_
      | (with_reducible refine WR.bz (fun _ => ?_) (fun _ => ?_) <;> try contradiction)
      | (with_reducible refine WR.bn (fun _ => ?_) (fun _ => ?_) <;> try contradiction)
      | (with_reducible refine WR.br (fun _ => ?_) (fun _ => ?_) <;> try contradiction)
      | refine WR.gIk rfl (by assumption) (by with_reducible assumption) ?_
      | refine WR.gI rfl (by assumption) ?_
      | refine WR.gR rfl (by assumption) (by assumption) ?_
      | refine WR.gN rfl (by assumption) (by assumption) ?_
      | refine WR.gL rfl (by assumption) ?_
      | refine WR.addn rfl (by with_reducible rfl) (by with_reducible rfl) ?_
      | refine WR.muln rfl (by with_reducible rfl) (by with_reducible rfl) ?_
      | refine WR.subn rfl (by with_reducible rfl) (by with_reducible rfl) (by omega) ?_
      | (refine WR.decn rfl rfl ?_; dsimp only [List.set])
      | (refine WR.incn rfl rfl ?_; dsimp only [List.set])
      | (refine WR.go rfl rfl ?_; try dsimp only [List.set])
      | refine WR.aIk rfl (by assumption) rfl (by first | with_reducible rfl | with_reducible assumption) (by omega) (by with_reducible assumption) ?_
      | refine WR.aI rfl (by assumption) rfl (by first | with_reducible rfl | with_reducible assumption) (by omega) ?_
      | refine WR.sI rfl (by assumption) rfl (by first | with_reducible rfl | with_reducible assumption) (by omega) ?_
      | refine WR.pI rfl (by assumption) ?_
      | refine WR.rt rfl rfl rfl rfl ?_
      | refine WR.rz rfl rfl (by decide) ?_)
    exact ⟨rfl, by rw [c_dn, decide_eq_false (p := q ≤ 40) (by omega), Bool.and_false]; rfl⟩
  · repeat' (first
      | (with_reducible refine WR.lt (by omega) (by omega) (fun _ => ?_) (fun _ => ?_) <;> try (exfalso; omega))
      | (with_reducible refine WR.le (by omega) (by omega) (fun _ => ?_) (fun _ => ?_) <;> try (exfalso; omega))
      | (with_reducible refine WR.eq (by omega) (by omega) (fun _ => ?_) (fun _ => ?_) <;> try (exfalso; omega))
      | (with_reducible refine WR.ne (by omega) (by omega) (fun _ => ?_) (fun _ => ?_) <;> try (exfalso; omega))
      | with_reducible refine WR.lt0 (by omega) ?_
      | with_reducible refine WR.ge0 (by omega) ?_
      | (with_reducible refine WR.bz (fun _ => ?_) (fun _ => ?_) <;> try contradiction)
      | (with_reducible refine WR.bn (fun _ => ?_) (fun _ => ?_) <;> try contradiction)
      | (with_reducible refine WR.br (fun _ => ?_) (fun _ => ?_) <;> try contradiction)
      | refine WR.gIk rfl (by assumption) (by with_reducible assumption) ?_
      | refine WR.gI rfl (by assumption) ?_
      | refine WR.gR rfl (by assumption) (by assumption) ?_
      | refine WR.gN rfl (by assumption) (by assumption) ?_
      | refine WR.gL rfl (by assumption) ?_
      | refine WR.addn rfl (by with_reducible rfl) (by with_reducible rfl) ?_
      | refine WR.muln rfl (by with_reducible rfl) (by with_reducible rfl) ?_
      | refine WR.subn rfl (by with_reducible rfl) (by with_reducible rfl) (by omega) ?_
      | (refine WR.decn rfl rfl ?_; dsimp only [List.set])
      | (refine WR.incn rfl rfl ?_; dsimp only [List.set])
      | (refine WR.go rfl rfl ?_; try dsimp only [List.set])
      | refine WR.aIk rfl (by assumption) rfl (by first | with_reducible rfl | with_reducible assumption) (by omega) (by with_reducible assumption) ?_
      | refine WR.aI rfl (by assumption) rfl (by first | with_reducible rfl | with_reducible assumption) (by omega) ?_
      | refine WR.sI rfl (by assumption) rfl (by first | with_reducible rfl | with_reducible assumption) (by omega) ?_
      | refine WR.pI rfl (by assumption) ?_
      | refine WR.rt rfl rfl rfl rfl ?_
      | refine WR.rz rfl rfl (by decide) ?_)
    · rename_i h1 h2 h3
      rw [lg_cmp_eq] at h3
      have h3' : Z.2.1 p 3 >>> ((nI q).toInt64 &&& 63) &&& lN 1 = lN 0 := h3
      exact ⟨rfl, by simp [c_dn, h3', bI]; rfl⟩
    · rename_i h1 h2 h3
      rw [lg_cmp_eq] at h3
      have h3' : ¬ Z.2.1 p 3 >>> ((nI q).toInt64 &&& 63) &&& lN 1 = lN 0 := h3
      exact ⟨rfl, by simp [c_dn, h3', h1, h2, bI]; rfl⟩
set_option maxHeartbeats 2000000 in
theorem k_answer (d : Nat) (I : xI) {p q : Nat} (hq : q < 2 ^ 31) (hs : stK Z p) : ER Z (d + 2) 56 I [.ref p, .int (nI q)] (fun I' v => I' = I ∧ v = some (.int (c_an I (Z.2.1 p 3) p q))) := by
  have hs0 := hs
  obtain ⟨s1, s2, s3, s4, s5⟩ := hs
  refine ER.of (ls := [some (.ref p), some (.int (nI q))]) rfl rfl ?_
  repeat' ((with_reducible fail_if_success show WR _ _ _ 2 _ _ _ _); (first
      | (with_reducible refine WR.lt (by omega) (by omega) (fun _ => ?_) (fun _ => ?_) <;> try (exfalso; omega))
      | (with_reducible refine WR.le (by omega) (by omega) (fun _ => ?_) (fun _ => ?_) <;> try (exfalso; omega))
      | (with_reducible refine WR.eq (by omega) (by omega) (fun _ => ?_) (fun _ => ?_) <;> try (exfalso; omega))
      | (with_reducible refine WR.ne (by omega) (by omega) (fun _ => ?_) (fun _ => ?_) <;> try (exfalso; omega))
      | with_reducible refine WR.lt0 (by omega) ?_
      | with_reducible refine WR.ge0 (by omega) ?_
      | (with_reducible refine WR.bz (fun _ => ?_) (fun _ => ?_) <;> try contradiction)
      | (with_reducible refine WR.bn (fun _ => ?_) (fun _ => ?_) <;> try contradiction)
      | (with_reducible refine WR.br (fun _ => ?_) (fun _ => ?_) <;> try contradiction)
      | refine WR.gIk rfl (by assumption) (by with_reducible assumption) ?_
      | refine WR.gI rfl (by assumption) ?_
      | refine WR.gR rfl (by assumption) (by assumption) ?_
      | refine WR.gN rfl (by assumption) (by assumption) ?_
      | refine WR.gL rfl (by assumption) ?_
      | refine WR.addn rfl (by with_reducible rfl) (by with_reducible rfl) ?_
      | refine WR.muln rfl (by with_reducible rfl) (by with_reducible rfl) ?_
      | refine WR.subn rfl (by with_reducible rfl) (by with_reducible rfl) (by omega) ?_
      | (refine WR.decn rfl rfl ?_; dsimp only [List.set])
      | (refine WR.incn rfl rfl ?_; dsimp only [List.set])
      | (refine WR.go rfl rfl ?_; try dsimp only [List.set])
      | refine WR.aIk rfl (by assumption) rfl (by first | with_reducible rfl | with_reducible assumption) (by omega) (by with_reducible assumption) ?_
      | refine WR.aI rfl (by assumption) rfl (by first | with_reducible rfl | with_reducible assumption) (by omega) ?_
      | refine WR.sI rfl (by assumption) rfl (by first | with_reducible rfl | with_reducible assumption) (by omega) ?_
      | refine WR.pI rfl (by assumption) ?_
      | refine WR.rt rfl rfl rfl rfl ?_
      | refine WR.rz rfl rfl (by decide) ?_))
  refine WR.C1i rfl s1 rfl (k_done d I hq hs0) ?_
  rw [c_an]
  iterate 2 (first
      | (with_reducible refine WR.lt (by omega) (by omega) (fun _ => ?_) (fun _ => ?_) <;> try (exfalso; omega))
      | (with_reducible refine WR.le (by omega) (by omega) (fun _ => ?_) (fun _ => ?_) <;> try (exfalso; omega))
      | (with_reducible refine WR.eq (by omega) (by omega) (fun _ => ?_) (fun _ => ?_) <;> try (exfalso; omega))
      | (with_reducible refine WR.ne (by omega) (by omega) (fun _ => ?_) (fun _ => ?_) <;> try (exfalso; omega))
      | with_reducible refine WR.lt0 (by omega) ?_
      | with_reducible refine WR.ge0 (by omega) ?_
      | (with_reducible refine WR.bz (fun _ => ?_) (fun _ => ?_) <;> try contradiction)
      | (with_reducible refine WR.bn (fun _ => ?_) (fun _ => ?_) <;> try contradiction)
      | (with_reducible refine WR.br (fun _ => ?_) (fun _ => ?_) <;> try contradiction)
      | refine WR.gIk rfl (by assumption) (by with_reducible assumption) ?_
      | refine WR.gI rfl (by assumption) ?_
      | refine WR.gR rfl (by assumption) (by assumption) ?_
      | refine WR.gN rfl (by assumption) (by assumption) ?_
      | refine WR.gL rfl (by assumption) ?_
      | refine WR.addn rfl (by with_reducible rfl) (by with_reducible rfl) ?_
      | refine WR.muln rfl (by with_reducible rfl) (by with_reducible rfl) ?_
      | refine WR.subn rfl (by with_reducible rfl) (by with_reducible rfl) (by omega) ?_
      | (refine WR.decn rfl rfl ?_; dsimp only [List.set])
      | (refine WR.incn rfl rfl ?_; dsimp only [List.set])
      | (refine WR.go rfl rfl ?_; try dsimp only [List.set])
      | refine WR.aIk rfl (by assumption) rfl (by first | with_reducible rfl | with_reducible assumption) (by omega) (by with_reducible assumption) ?_
      | refine WR.aI rfl (by assumption) rfl (by first | with_reducible rfl | with_reducible assumption) (by omega) ?_
      | refine WR.sI rfl (by assumption) rfl (by first | with_reducible rfl | with_reducible assumption) (by omega) ?_
      | refine WR.pI rfl (by assumption) ?_
      | refine WR.rt rfl rfl rfl rfl ?_
      | refine WR.rz rfl rfl (by decide) ?_)
  · rename_i h
    rw [if_neg (by simp [h])]
    repeat' (first
      | (with_reducible refine WR.lt (by omega) (by omega) (fun _ => ?_) (fun _ => ?_) <;> try (exfalso; omega))
      | (with_reducible refine WR.le (by omega) (by omega) (fun _ => ?_) (fun _ => ?_) <;> try (exfalso; omega))
      | (with_reducible refine WR.eq (by omega) (by omega) (fun _ => ?_) (fun _ => ?_) <;> try (exfalso; omega))
      | (with_reducible refine WR.ne (by omega) (by omega) (fun _ => ?_) (fun _ => ?_) <;> try (exfalso; omega))
      | with_reducible refine WR.lt0 (by omega) ?_
      | with_reducible refine WR.ge0 (by omega) ?_
      | (with_reducible refine WR.bz (fun _ => ?_) (fun _ => ?_) <;> try contradiction)
      | (with_reducible refine WR.bn (fun _ => ?_) (fun _ => ?_) <;> try contradiction)
      | (with_reducible refine WR.br (fun _ => ?_) (fun _ => ?_) <;> try contradiction)
      | refine WR.gIk rfl (by assumption) (by with_reducible assumption) ?_
      | refine WR.gI rfl (by assumption) ?_
      | refine WR.gR rfl (by assumption) (by assumption) ?_
      | refine WR.gN rfl (by assumption) (by assumption) ?_
      | refine WR.gL rfl (by assumption) ?_
      | refine WR.addn rfl (by with_reducible rfl) (by with_reducible rfl) ?_
      | refine WR.muln rfl (by with_reducible rfl) (by with_reducible rfl) ?_
      | refine WR.subn rfl (by with_reducible rfl) (by with_reducible rfl) (by omega) ?_
      | (refine WR.decn rfl rfl ?_; dsimp only [List.set])
      | (refine WR.incn rfl rfl ?_; dsimp only [List.set])
      | (refine WR.go rfl rfl ?_; try dsimp only [List.set])
      | refine WR.aIk rfl (by assumption) rfl (by first | with_reducible rfl | with_reducible assumption) (by omega) (by with_reducible assumption) ?_
      | refine WR.aI rfl (by assumption) rfl (by first | with_reducible rfl | with_reducible assumption) (by omega) ?_
      | refine WR.sI rfl (by assumption) rfl (by first | with_reducible rfl | with_reducible assumption) (by omega) ?_
      | refine WR.pI rfl (by assumption) ?_
      | refine WR.rt rfl rfl rfl rfl ?_
      | refine WR.rz rfl rfl (by decide) ?_)
    exact ⟨rfl, rfl⟩
  · rename_i h
    rw [if_pos h]
    simp only [c_dn, Bool.and_eq_true, decide_eq_true_eq] at h
    have h40 := h.1.2
    repeat' (first
      | (with_reducible refine WR.lt (by omega) (by omega) (fun _ => ?_) (fun _ => ?_) <;> try (exfalso; omega))
      | (with_reducible refine WR.le (by omega) (by omega) (fun _ => ?_) (fun _ => ?_) <;> try (exfalso; omega))
      | (with_reducible refine WR.eq (by omega) (by omega) (fun _ => ?_) (fun _ => ?_) <;> try (exfalso; omega))
      | (with_reducible refine WR.ne (by omega) (by omega) (fun _ => ?_) (fun _ => ?_) <;> try (exfalso; omega))
      | with_reducible refine WR.lt0 (by omega) ?_
      | with_reducible refine WR.ge0 (by omega) ?_
      | (with_reducible refine WR.bz (fun _ => ?_) (fun _ => ?_) <;> try contradiction)
      | (with_reducible refine WR.bn (fun _ => ?_) (fun _ => ?_) <;> try contradiction)
      | (with_reducible refine WR.br (fun _ => ?_) (fun _ => ?_) <;> try contradiction)
      | refine WR.gIk rfl (by assumption) (by with_reducible assumption) ?_
      | refine WR.gI rfl (by assumption) ?_
      | refine WR.gR rfl (by assumption) (by assumption) ?_
      | refine WR.gN rfl (by assumption) (by assumption) ?_
      | refine WR.gL rfl (by assumption) ?_
      | refine WR.addn rfl (by with_reducible rfl) (by with_reducible rfl) ?_
      | refine WR.muln rfl (by with_reducible rfl) (by with_reducible rfl) ?_
      | refine WR.subn rfl (by with_reducible rfl) (by with_reducible rfl) (by omega) ?_
      | (refine WR.decn rfl rfl ?_; dsimp only [List.set])
      | (refine WR.incn rfl rfl ?_; dsimp only [List.set])
      | (refine WR.go rfl rfl ?_; try dsimp only [List.set])
      | refine WR.aIk rfl (by assumption) rfl (by first | with_reducible rfl | with_reducible assumption) (by omega) (by with_reducible assumption) ?_
      | refine WR.aI rfl (by assumption) rfl (by first | with_reducible rfl | with_reducible assumption) (by omega) ?_
      | refine WR.sI rfl (by assumption) rfl (by first | with_reducible rfl | with_reducible assumption) (by omega) ?_
      | refine WR.pI rfl (by assumption) ?_
      | refine WR.rt rfl rfl rfl rfl ?_
      | refine WR.rz rfl rfl (by decide) ?_)
    exact ⟨rfl, rfl⟩
set_option maxHeartbeats 2000000 in
theorem k_memb (d : Nat) (I : xI) {p f s : Nat} (hs : stO Z I p f) (h1 : f < s) (h2 : s < 2 ^ 30) : ER Z (d + 1) 57 I [.ref p, .int (nI s)] (fun I' v => I' = I ∧ v = some (.int (c_mo I p f s))) := by
  obtain ⟨⟨s1, s2, s3, s4, s5⟩, s6, s7, s8⟩ := hs
  refine ER.of (ls := [some (.ref p), some (.int (nI s))]) rfl rfl ?_
  repeat' ((with_reducible fail_if_success show WR _ _ _ 6 _ _ _ _); (first
      | (with_reducible refine WR.lt (by omega) (by omega) (fun _ => ?_) (fun _ => ?_) <;> try (exfalso; omega))
      | (with_reducible refine WR.le (by omega) (by omega) (fun _ => ?_) (fun _ => ?_) <;> try (exfalso; omega))
      | (with_reducible refine WR.eq (by omega) (by omega) (fun _ => ?_) (fun _ => ?_) <;> try (exfalso; omega))
      | (with_reducible refine WR.ne (by omega) (by omega) (fun _ => ?_) (fun _ => ?_) <;> try (exfalso; omega))
      | with_reducible refine WR.lt0 (by omega) ?_
      | with_reducible refine WR.ge0 (by omega) ?_
      | (with_reducible refine WR.bz (fun _ => ?_) (fun _ => ?_) <;> try contradiction)
      | (with_reducible refine WR.bn (fun _ => ?_) (fun _ => ?_) <;> try contradiction)
      | (with_reducible refine WR.br (fun _ => ?_) (fun _ => ?_) <;> try contradiction)
      | refine WR.gIk rfl (by assumption) (by with_reducible assumption) ?_
      | refine WR.gI rfl (by assumption) ?_
      | refine WR.gR rfl (by assumption) (by assumption) ?_
      | refine WR.gN rfl (by assumption) (by assumption) ?_
      | refine WR.gL rfl (by assumption) ?_
      | refine WR.addn rfl (by with_reducible rfl) (by with_reducible rfl) ?_
      | refine WR.muln rfl (by with_reducible rfl) (by with_reducible rfl) ?_
      | refine WR.subn rfl (by with_reducible rfl) (by with_reducible rfl) (by omega) ?_
      | (refine WR.decn rfl rfl ?_; dsimp only [List.set])
      | (refine WR.incn rfl rfl ?_; dsimp only [List.set])
      | (refine WR.go rfl rfl ?_; try dsimp only [List.set])
      | refine WR.aIk rfl (by assumption) rfl (by first | with_reducible rfl | with_reducible assumption) (by omega) (by with_reducible assumption) ?_
      | refine WR.aI rfl (by assumption) rfl (by first | with_reducible rfl | with_reducible assumption) (by omega) ?_
      | refine WR.sI rfl (by assumption) rfl (by first | with_reducible rfl | with_reducible assumption) (by omega) ?_
      | refine WR.pI rfl (by assumption) ?_
      | refine WR.rt rfl rfl rfl rfl ?_
      | refine WR.rz rfl rfl (by decide) ?_))
  rw [c_mo]
  by_cases e1 : s = f + 1
  · subst e1
    rw [if_pos rfl]
    refine WR.ts (t' := 32) rfl (by omega) (by rw [if_neg (by omega), show f + 1 - f - 1 = 0 by omega]; rfl) ?_
    repeat' (first
      | (with_reducible refine WR.lt (by omega) (by omega) (fun _ => ?_) (fun _ => ?_) <;> try (exfalso; omega))
      | (with_reducible refine WR.le (by omega) (by omega) (fun _ => ?_) (fun _ => ?_) <;> try (exfalso; omega))
      | (with_reducible refine WR.eq (by omega) (by omega) (fun _ => ?_) (fun _ => ?_) <;> try (exfalso; omega))
      | (with_reducible refine WR.ne (by omega) (by omega) (fun _ => ?_) (fun _ => ?_) <;> try (exfalso; omega))
      | with_reducible refine WR.lt0 (by omega) ?_
      | with_reducible refine WR.ge0 (by omega) ?_
      | (with_reducible refine WR.bz (fun _ => ?_) (fun _ => ?_) <;> try contradiction)
      | (with_reducible refine WR.bn (fun _ => ?_) (fun _ => ?_) <;> try contradiction)
      | (with_reducible refine WR.br (fun _ => ?_) (fun _ => ?_) <;> try contradiction)
      | refine WR.gIk rfl (by assumption) (by with_reducible assumption) ?_
      | refine WR.gI rfl (by assumption) ?_
      | refine WR.gR rfl (by assumption) (by assumption) ?_
      | refine WR.gN rfl (by assumption) (by assumption) ?_
      | refine WR.gL rfl (by assumption) ?_
      | refine WR.addn rfl (by with_reducible rfl) (by with_reducible rfl) ?_
      | refine WR.muln rfl (by with_reducible rfl) (by with_reducible rfl) ?_
      | refine WR.subn rfl (by with_reducible rfl) (by with_reducible rfl) (by omega) ?_
      | (refine WR.decn rfl rfl ?_; dsimp only [List.set])
      | (refine WR.incn rfl rfl ?_; dsimp only [List.set])
      | (refine WR.go rfl rfl ?_; try dsimp only [List.set])
      | refine WR.aIk rfl (by assumption) rfl (by first | with_reducible rfl | with_reducible assumption) (by omega) (by with_reducible assumption) ?_
      | refine WR.aI rfl (by assumption) rfl (by first | with_reducible rfl | with_reducible assumption) (by omega) ?_
      | refine WR.sI rfl (by assumption) rfl (by first | with_reducible rfl | with_reducible assumption) (by omega) ?_
      | refine WR.pI rfl (by assumption) ?_
      | refine WR.rt rfl rfl rfl rfl ?_
      | refine WR.rz rfl rfl (by decide) ?_)
    exact ⟨rfl, rfl⟩
  · rw [if_neg e1]
    by_cases e2 : s = f + 2
    · subst e2
      rw [if_pos rfl]
      refine WR.ts (t' := 37) rfl (by omega) (by rw [if_neg (by omega), show f + 2 - f - 1 = 1 by omega]; rfl) ?_
      repeat' (first
      | (with_reducible refine WR.lt (by omega) (by omega) (fun _ => ?_) (fun _ => ?_) <;> try (exfalso; omega))
      | (with_reducible refine WR.le (by omega) (by omega) (fun _ => ?_) (fun _ => ?_) <;> try (exfalso; omega))
      | (with_reducible refine WR.eq (by omega) (by omega) (fun _ => ?_) (fun _ => ?_) <;> try (exfalso; omega))
      | (with_reducible refine WR.ne (by omega) (by omega) (fun _ => ?_) (fun _ => ?_) <;> try (exfalso; omega))
      | with_reducible refine WR.lt0 (by omega) ?_
      | with_reducible refine WR.ge0 (by omega) ?_
      | (with_reducible refine WR.bz (fun _ => ?_) (fun _ => ?_) <;> try contradiction)
      | (with_reducible refine WR.bn (fun _ => ?_) (fun _ => ?_) <;> try contradiction)
      | (with_reducible refine WR.br (fun _ => ?_) (fun _ => ?_) <;> try contradiction)
      | refine WR.gIk rfl (by assumption) (by with_reducible assumption) ?_
      | refine WR.gI rfl (by assumption) ?_
      | refine WR.gR rfl (by assumption) (by assumption) ?_
      | refine WR.gN rfl (by assumption) (by assumption) ?_
      | refine WR.gL rfl (by assumption) ?_
      | refine WR.addn rfl (by with_reducible rfl) (by with_reducible rfl) ?_
      | refine WR.muln rfl (by with_reducible rfl) (by with_reducible rfl) ?_
      | refine WR.subn rfl (by with_reducible rfl) (by with_reducible rfl) (by omega) ?_
      | (refine WR.decn rfl rfl ?_; dsimp only [List.set])
      | (refine WR.incn rfl rfl ?_; dsimp only [List.set])
      | (refine WR.go rfl rfl ?_; try dsimp only [List.set])
      | refine WR.aIk rfl (by assumption) rfl (by first | with_reducible rfl | with_reducible assumption) (by omega) (by with_reducible assumption) ?_
      | refine WR.aI rfl (by assumption) rfl (by first | with_reducible rfl | with_reducible assumption) (by omega) ?_
      | refine WR.sI rfl (by assumption) rfl (by first | with_reducible rfl | with_reducible assumption) (by omega) ?_
      | refine WR.pI rfl (by assumption) ?_
      | refine WR.rt rfl rfl rfl rfl ?_
      | refine WR.rz rfl rfl (by decide) ?_)
      exact ⟨rfl, rfl⟩
    · rw [if_neg e2]
      by_cases e3 : s = f + 3
      · subst e3
        rw [if_pos rfl]
        refine WR.ts (t' := 42) rfl (by omega) (by rw [if_neg (by omega), show f + 3 - f - 1 = 2 by omega]; rfl) ?_
        repeat' (first
      | (with_reducible refine WR.lt (by omega) (by omega) (fun _ => ?_) (fun _ => ?_) <;> try (exfalso; omega))
      | (with_reducible refine WR.le (by omega) (by omega) (fun _ => ?_) (fun _ => ?_) <;> try (exfalso; omega))
      | (with_reducible refine WR.eq (by omega) (by omega) (fun _ => ?_) (fun _ => ?_) <;> try (exfalso; omega))
      | (with_reducible refine WR.ne (by omega) (by omega) (fun _ => ?_) (fun _ => ?_) <;> try (exfalso; omega))
      | with_reducible refine WR.lt0 (by omega) ?_
      | with_reducible refine WR.ge0 (by omega) ?_
      | (with_reducible refine WR.bz (fun _ => ?_) (fun _ => ?_) <;> try contradiction)
      | (with_reducible refine WR.bn (fun _ => ?_) (fun _ => ?_) <;> try contradiction)
      | (with_reducible refine WR.br (fun _ => ?_) (fun _ => ?_) <;> try contradiction)
      | refine WR.gIk rfl (by assumption) (by with_reducible assumption) ?_
      | refine WR.gI rfl (by assumption) ?_
      | refine WR.gR rfl (by assumption) (by assumption) ?_
      | refine WR.gN rfl (by assumption) (by assumption) ?_
      | refine WR.gL rfl (by assumption) ?_
      | refine WR.addn rfl (by with_reducible rfl) (by with_reducible rfl) ?_
      | refine WR.muln rfl (by with_reducible rfl) (by with_reducible rfl) ?_
      | refine WR.subn rfl (by with_reducible rfl) (by with_reducible rfl) (by omega) ?_
      | (refine WR.decn rfl rfl ?_; dsimp only [List.set])
      | (refine WR.incn rfl rfl ?_; dsimp only [List.set])
      | (refine WR.go rfl rfl ?_; try dsimp only [List.set])
      | refine WR.aIk rfl (by assumption) rfl (by first | with_reducible rfl | with_reducible assumption) (by omega) (by with_reducible assumption) ?_
      | refine WR.aI rfl (by assumption) rfl (by first | with_reducible rfl | with_reducible assumption) (by omega) ?_
      | refine WR.sI rfl (by assumption) rfl (by first | with_reducible rfl | with_reducible assumption) (by omega) ?_
      | refine WR.pI rfl (by assumption) ?_
      | refine WR.rt rfl rfl rfl rfl ?_
      | refine WR.rz rfl rfl (by decide) ?_)
        exact ⟨rfl, rfl⟩
      · rw [if_neg e3]
        refine WR.ts (t' := 47) rfl (by omega) (by rw [if_neg (by omega), List.getD_eq_getElem?_getD, List.getElem?_eq_none (by show 3 ≤ _; omega)]; rfl) ?_
        repeat' (first
      | (with_reducible refine WR.lt (by omega) (by omega) (fun _ => ?_) (fun _ => ?_) <;> try (exfalso; omega))
      | (with_reducible refine WR.le (by omega) (by omega) (fun _ => ?_) (fun _ => ?_) <;> try (exfalso; omega))
      | (with_reducible refine WR.eq (by omega) (by omega) (fun _ => ?_) (fun _ => ?_) <;> try (exfalso; omega))
      | (with_reducible refine WR.ne (by omega) (by omega) (fun _ => ?_) (fun _ => ?_) <;> try (exfalso; omega))
      | with_reducible refine WR.lt0 (by omega) ?_
      | with_reducible refine WR.ge0 (by omega) ?_
      | (with_reducible refine WR.bz (fun _ => ?_) (fun _ => ?_) <;> try contradiction)
      | (with_reducible refine WR.bn (fun _ => ?_) (fun _ => ?_) <;> try contradiction)
      | (with_reducible refine WR.br (fun _ => ?_) (fun _ => ?_) <;> try contradiction)
      | refine WR.gIk rfl (by assumption) (by with_reducible assumption) ?_
      | refine WR.gI rfl (by assumption) ?_
      | refine WR.gR rfl (by assumption) (by assumption) ?_
      | refine WR.gN rfl (by assumption) (by assumption) ?_
      | refine WR.gL rfl (by assumption) ?_
      | refine WR.addn rfl (by with_reducible rfl) (by with_reducible rfl) ?_
      | refine WR.muln rfl (by with_reducible rfl) (by with_reducible rfl) ?_
      | refine WR.subn rfl (by with_reducible rfl) (by with_reducible rfl) (by omega) ?_
      | (refine WR.decn rfl rfl ?_; dsimp only [List.set])
      | (refine WR.incn rfl rfl ?_; dsimp only [List.set])
      | (refine WR.go rfl rfl ?_; try dsimp only [List.set])
      | refine WR.aIk rfl (by assumption) rfl (by first | with_reducible rfl | with_reducible assumption) (by omega) (by with_reducible assumption) ?_
      | refine WR.aI rfl (by assumption) rfl (by first | with_reducible rfl | with_reducible assumption) (by omega) ?_
      | refine WR.sI rfl (by assumption) rfl (by first | with_reducible rfl | with_reducible assumption) (by omega) ?_
      | refine WR.pI rfl (by assumption) ?_
      | refine WR.rt rfl rfl rfl rfl ?_
      | refine WR.rz rfl rfl (by decide) ?_)
        exact ⟨rfl, rfl⟩
set_option maxHeartbeats 1000000 in
theorem k_ahead (d : Nat) (I : xI) {p : Nat} (hs : stK Z p) : ER Z (d + 1) 58 I [.ref p] (fun I' v => I' = I ∧ v = some (.int (I p 6 ||| I p 5 ||| I p 4))) := by
  obtain ⟨s1, s2, s3, s4, s5⟩ := hs
  refine ER.of (ls := [some (.ref p)]) rfl rfl ?_
  repeat' (first
      | (with_reducible refine WR.lt (by omega) (by omega) (fun _ => ?_) (fun _ => ?_) <;> try (exfalso; omega))
      | (with_reducible refine WR.le (by omega) (by omega) (fun _ => ?_) (fun _ => ?_) <;> try (exfalso; omega))
      | (with_reducible refine WR.eq (by omega) (by omega) (fun _ => ?_) (fun _ => ?_) <;> try (exfalso; omega))
      | (with_reducible refine WR.ne (by omega) (by omega) (fun _ => ?_) (fun _ => ?_) <;> try (exfalso; omega))
      | with_reducible refine WR.lt0 (by omega) ?_
      | with_reducible refine WR.ge0 (by omega) ?_
      | (with_reducible refine WR.bz (fun _ => ?_) (fun _ => ?_) <;> try contradiction)
      | (with_reducible refine WR.bn (fun _ => ?_) (fun _ => ?_) <;> try contradiction)
      | (with_reducible refine WR.br (fun _ => ?_) (fun _ => ?_) <;> try contradiction)
      | refine WR.gIk rfl (by assumption) (by with_reducible assumption) ?_
      | refine WR.gI rfl (by assumption) ?_
      | refine WR.gR rfl (by assumption) (by assumption) ?_
      | refine WR.gN rfl (by assumption) (by assumption) ?_
      | refine WR.gL rfl (by assumption) ?_
      | refine WR.addn rfl (by with_reducible rfl) (by with_reducible rfl) ?_
      | refine WR.muln rfl (by with_reducible rfl) (by with_reducible rfl) ?_
      | refine WR.subn rfl (by with_reducible rfl) (by with_reducible rfl) (by omega) ?_
      | (refine WR.decn rfl rfl ?_; dsimp only [List.set])
      | (refine WR.incn rfl rfl ?_; dsimp only [List.set])
      | (refine WR.go rfl rfl ?_; try dsimp only [List.set])
      | refine WR.aIk rfl (by assumption) rfl (by first | with_reducible rfl | with_reducible assumption) (by omega) (by with_reducible assumption) ?_
      | refine WR.aI rfl (by assumption) rfl (by first | with_reducible rfl | with_reducible assumption) (by omega) ?_
      | refine WR.sI rfl (by assumption) rfl (by first | with_reducible rfl | with_reducible assumption) (by omega) ?_
      | refine WR.pI rfl (by assumption) ?_
      | refine WR.rt rfl rfl rfl rfl ?_
      | refine WR.rz rfl rfl (by decide) ?_)
  exact ⟨rfl, rfl⟩
theorem k_lbits (d : Nat) (I : xI) (x : Int64) : ER Z (d + 1) 142 I [.long x] (fun I' v => I' = I ∧ v = some (.int (x_bc x))) := by
  refine ⟨0, zM Z I, some (.int (x_bc x)), ?_, I, rfl, rfl, rfl⟩
  rfl
set_option maxHeartbeats 1000000 in
theorem k_ndone (d : Nat) (I : xI) {p : Nat} (hs : stK Z p) : ER Z (d + 2) 62 I [.ref p] (fun I' v => I' = I ∧ v = some (.int (x_bc (Z.2.1 p 3)))) := by
  obtain ⟨s1, s2, s3, s4, s5⟩ := hs
  refine ER.of (ls := [some (.ref p)]) rfl rfl ?_
  repeat' ((with_reducible fail_if_success show WR _ _ _ 4 _ _ _ _); (first
      | (with_reducible refine WR.lt (by omega) (by omega) (fun _ => ?_) (fun _ => ?_) <;> try (exfalso; omega))
      | (with_reducible refine WR.le (by omega) (by omega) (fun _ => ?_) (fun _ => ?_) <;> try (exfalso; omega))
      | (with_reducible refine WR.eq (by omega) (by omega) (fun _ => ?_) (fun _ => ?_) <;> try (exfalso; omega))
      | (with_reducible refine WR.ne (by omega) (by omega) (fun _ => ?_) (fun _ => ?_) <;> try (exfalso; omega))
      | with_reducible refine WR.lt0 (by omega) ?_
      | with_reducible refine WR.ge0 (by omega) ?_
      | (with_reducible refine WR.bz (fun _ => ?_) (fun _ => ?_) <;> try contradiction)
      | (with_reducible refine WR.bn (fun _ => ?_) (fun _ => ?_) <;> try contradiction)
      | (with_reducible refine WR.br (fun _ => ?_) (fun _ => ?_) <;> try contradiction)
      | refine WR.gIk rfl (by assumption) (by with_reducible assumption) ?_
      | refine WR.gI rfl (by assumption) ?_
      | refine WR.gR rfl (by assumption) (by assumption) ?_
      | refine WR.gN rfl (by assumption) (by assumption) ?_
      | refine WR.gL rfl (by assumption) ?_
      | refine WR.addn rfl (by with_reducible rfl) (by with_reducible rfl) ?_
      | refine WR.muln rfl (by with_reducible rfl) (by with_reducible rfl) ?_
      | refine WR.subn rfl (by with_reducible rfl) (by with_reducible rfl) (by omega) ?_
      | (refine WR.decn rfl rfl ?_; dsimp only [List.set])
      | (refine WR.incn rfl rfl ?_; dsimp only [List.set])
      | (refine WR.go rfl rfl ?_; try dsimp only [List.set])
      | refine WR.aIk rfl (by assumption) rfl (by first | with_reducible rfl | with_reducible assumption) (by omega) (by with_reducible assumption) ?_
      | refine WR.aI rfl (by assumption) rfl (by first | with_reducible rfl | with_reducible assumption) (by omega) ?_
      | refine WR.sI rfl (by assumption) rfl (by first | with_reducible rfl | with_reducible assumption) (by omega) ?_
      | refine WR.pI rfl (by assumption) ?_
      | refine WR.rt rfl rfl rfl rfl ?_
      | refine WR.rz rfl rfl (by decide) ?_))
  refine WR.S1i rfl rfl (k_lbits d I _) ?_
  repeat' (first
      | (with_reducible refine WR.lt (by omega) (by omega) (fun _ => ?_) (fun _ => ?_) <;> try (exfalso; omega))
      | (with_reducible refine WR.le (by omega) (by omega) (fun _ => ?_) (fun _ => ?_) <;> try (exfalso; omega))
      | (with_reducible refine WR.eq (by omega) (by omega) (fun _ => ?_) (fun _ => ?_) <;> try (exfalso; omega))
      | (with_reducible refine WR.ne (by omega) (by omega) (fun _ => ?_) (fun _ => ?_) <;> try (exfalso; omega))
      | with_reducible refine WR.lt0 (by omega) ?_
      | with_reducible refine WR.ge0 (by omega) ?_
      | (with_reducible refine WR.bz (fun _ => ?_) (fun _ => ?_) <;> try contradiction)
      | (with_reducible refine WR.bn (fun _ => ?_) (fun _ => ?_) <;> try contradiction)
      | (with_reducible refine WR.br (fun _ => ?_) (fun _ => ?_) <;> try contradiction)
      | refine WR.gIk rfl (by assumption) (by with_reducible assumption) ?_
      | refine WR.gI rfl (by assumption) ?_
      | refine WR.gR rfl (by assumption) (by assumption) ?_
      | refine WR.gN rfl (by assumption) (by assumption) ?_
      | refine WR.gL rfl (by assumption) ?_
      | refine WR.addn rfl (by with_reducible rfl) (by with_reducible rfl) ?_
      | refine WR.muln rfl (by with_reducible rfl) (by with_reducible rfl) ?_
      | refine WR.subn rfl (by with_reducible rfl) (by with_reducible rfl) (by omega) ?_
      | (refine WR.decn rfl rfl ?_; dsimp only [List.set])
      | (refine WR.incn rfl rfl ?_; dsimp only [List.set])
      | (refine WR.go rfl rfl ?_; try dsimp only [List.set])
      | refine WR.aIk rfl (by assumption) rfl (by first | with_reducible rfl | with_reducible assumption) (by omega) (by with_reducible assumption) ?_
      | refine WR.aI rfl (by assumption) rfl (by first | with_reducible rfl | with_reducible assumption) (by omega) ?_
      | refine WR.sI rfl (by assumption) rfl (by first | with_reducible rfl | with_reducible assumption) (by omega) ?_
      | refine WR.pI rfl (by assumption) ?_
      | refine WR.rt rfl rfl rfl rfl ?_
      | refine WR.rz rfl rfl (by decide) ?_)
  exact ⟨rfl, rfl⟩
set_option maxHeartbeats 1000000 in
theorem k_camps (d : Nat) (I : xI) {p : Nat} (hp : rpK Z p) : ER Z (d + 1) 28 I [.ref p] (fun I' v => I' = I ∧ v = some (.int (bI (c_cmpg I p)))) := by
  obtain ⟨p1, p2, p3, p4, p5, p6, p7, p8, p9, _⟩ := hp
  refine ER.of (ls := [some (.ref p)]) rfl rfl ?_
  repeat' (first
      | (with_reducible refine WR.lt (by omega) (by omega) (fun _ => ?_) (fun _ => ?_) <;> try (exfalso; omega))
      | (with_reducible refine WR.le (by omega) (by omega) (fun _ => ?_) (fun _ => ?_) <;> try (exfalso; omega))
      | (with_reducible refine WR.eq (by omega) (by omega) (fun _ => ?_) (fun _ => ?_) <;> try (exfalso; omega))
      | (with_reducible refine WR.ne (by omega) (by omega) (fun _ => ?_) (fun _ => ?_) <;> try (exfalso; omega))
      | with_reducible refine WR.lt0 (by omega) ?_
      | with_reducible refine WR.ge0 (by omega) ?_
      | (with_reducible refine WR.bz (fun _ => ?_) (fun _ => ?_) <;> try contradiction)
      | (with_reducible refine WR.bn (fun _ => ?_) (fun _ => ?_) <;> try contradiction)
      | (with_reducible refine WR.br (fun _ => ?_) (fun _ => ?_) <;> try contradiction)
      | refine WR.gIk rfl (by assumption) (by with_reducible assumption) ?_
      | refine WR.gI rfl (by assumption) ?_
      | refine WR.gR rfl (by assumption) (by assumption) ?_
      | refine WR.gN rfl (by assumption) (by assumption) ?_
      | refine WR.gL rfl (by assumption) ?_
      | refine WR.addn rfl (by with_reducible rfl) (by with_reducible rfl) ?_
      | refine WR.muln rfl (by with_reducible rfl) (by with_reducible rfl) ?_
      | refine WR.subn rfl (by with_reducible rfl) (by with_reducible rfl) (by omega) ?_
      | (refine WR.decn rfl rfl ?_; dsimp only [List.set])
      | (refine WR.incn rfl rfl ?_; dsimp only [List.set])
      | (refine WR.go rfl rfl ?_; try dsimp only [List.set])
      | refine WR.aIk rfl (by assumption) rfl (by first | with_reducible rfl | with_reducible assumption) (by omega) (by with_reducible assumption) ?_
      | refine WR.aI rfl (by assumption) rfl (by first | with_reducible rfl | with_reducible assumption) (by omega) ?_
      | refine WR.sI rfl (by assumption) rfl (by first | with_reducible rfl | with_reducible assumption) (by omega) ?_
      | refine WR.pI rfl (by assumption) ?_
      | refine WR.rt rfl rfl rfl rfl ?_
      | refine WR.rz rfl rfl (by decide) ?_)
  · rename_i h; exact ⟨rfl, by rw [c_cmpg, decide_eq_false h]; rfl⟩
  · rename_i h; exact ⟨rfl, by rw [c_cmpg, decide_eq_true (Classical.not_not.mp h)]; rfl⟩
set_option maxHeartbeats 1000000 in
theorem k_supp (d : Nat) (I : xI) {p q f s : Nat} (hp : rpK Z p) (hq : Z.2.2 p 7 = some q) (ho : stO Z I q f) (h1 : f < s) (h2 : s < 2 ^ 30) : ER Z (d + 3) 31 I [.ref p, .int (nI s)] (fun I' v => I' = I ∧ v = some (.int (bI (c_sup I p q f s)))) := by
  obtain ⟨p1, p2, p3, p4, p5, p6, p7, p8, p9, _⟩ := hp
  obtain ⟨b, b1, b2⟩ := c_mo_in ho s
  have q1 := ho.1.1
  refine ER.of (ls := [some (.ref p), some (.int (nI s))]) rfl rfl ?_
  repeat' ((with_reducible fail_if_success show WR _ _ _ 12 _ _ _ _); (first
      | (with_reducible refine WR.lt (by omega) (by omega) (fun _ => ?_) (fun _ => ?_) <;> try (exfalso; omega))
      | (with_reducible refine WR.le (by omega) (by omega) (fun _ => ?_) (fun _ => ?_) <;> try (exfalso; omega))
      | (with_reducible refine WR.eq (by omega) (by omega) (fun _ => ?_) (fun _ => ?_) <;> try (exfalso; omega))
      | (with_reducible refine WR.ne (by omega) (by omega) (fun _ => ?_) (fun _ => ?_) <;> try (exfalso; omega))
      | with_reducible refine WR.lt0 (by omega) ?_
      | with_reducible refine WR.ge0 (by omega) ?_
      | (with_reducible refine WR.bz (fun _ => ?_) (fun _ => ?_) <;> try contradiction)
      | (with_reducible refine WR.bn (fun _ => ?_) (fun _ => ?_) <;> try contradiction)
      | (with_reducible refine WR.br (fun _ => ?_) (fun _ => ?_) <;> try contradiction)
      | refine WR.gIk rfl (by assumption) (by with_reducible assumption) ?_
      | refine WR.gI rfl (by assumption) ?_
      | refine WR.gR rfl (by assumption) (by assumption) ?_
      | refine WR.gN rfl (by assumption) (by assumption) ?_
      | refine WR.gL rfl (by assumption) ?_
      | refine WR.addn rfl (by with_reducible rfl) (by with_reducible rfl) ?_
      | refine WR.muln rfl (by with_reducible rfl) (by with_reducible rfl) ?_
      | refine WR.subn rfl (by with_reducible rfl) (by with_reducible rfl) (by omega) ?_
      | (refine WR.decn rfl rfl ?_; dsimp only [List.set])
      | (refine WR.incn rfl rfl ?_; dsimp only [List.set])
      | (refine WR.go rfl rfl ?_; try dsimp only [List.set])
      | refine WR.aIk rfl (by assumption) rfl (by first | with_reducible rfl | with_reducible assumption) (by omega) (by with_reducible assumption) ?_
      | refine WR.aI rfl (by assumption) rfl (by first | with_reducible rfl | with_reducible assumption) (by omega) ?_
      | refine WR.sI rfl (by assumption) rfl (by first | with_reducible rfl | with_reducible assumption) (by omega) ?_
      | refine WR.pI rfl (by assumption) ?_
      | refine WR.rt rfl rfl rfl rfl ?_
      | refine WR.rz rfl rfl (by decide) ?_))
  refine WR.C1i rfl q1 rfl (k_memb (d + 1) I ho h1 h2) ?_
  rw [c_sup, b2]
  refine WR.S2i rfl rfl (k_maj d I _ b1) ?_
  refine WR.rz rfl rfl (bI_01 _) ?_
  exact ⟨rfl, rfl⟩
set_option maxHeartbeats 1000000 in
theorem k_open (d : Nat) (I : xI) {p s : Nat} (hp : rpK Z p) (hs : s < 2 ^ 31) : ER Z (d + 3) 30 I [.ref p, .int (nI s)] (fun I' v => I' = I ∧ v = some (.int (bI (c_opn I p s)))) := by
  obtain ⟨p1, p2, p3, p4, p5, p6, p7, p8, c1, c2, c3, c4, c5, c6, c7⟩ := hp
  refine ER.of (ls := [some (.ref p), some (.int (nI s))]) rfl rfl ?_
  repeat' ((with_reducible fail_if_success show WR _ _ _ 1 _ _ _ _); (first
      | (with_reducible refine WR.lt (by omega) (by omega) (fun _ => ?_) (fun _ => ?_) <;> try (exfalso; omega))
      | (with_reducible refine WR.le (by omega) (by omega) (fun _ => ?_) (fun _ => ?_) <;> try (exfalso; omega))
      | (with_reducible refine WR.eq (by omega) (by omega) (fun _ => ?_) (fun _ => ?_) <;> try (exfalso; omega))
      | (with_reducible refine WR.ne (by omega) (by omega) (fun _ => ?_) (fun _ => ?_) <;> try (exfalso; omega))
      | with_reducible refine WR.lt0 (by omega) ?_
      | with_reducible refine WR.ge0 (by omega) ?_
      | (with_reducible refine WR.bz (fun _ => ?_) (fun _ => ?_) <;> try contradiction)
      | (with_reducible refine WR.bn (fun _ => ?_) (fun _ => ?_) <;> try contradiction)
      | (with_reducible refine WR.br (fun _ => ?_) (fun _ => ?_) <;> try contradiction)
      | refine WR.gIk rfl (by assumption) (by with_reducible assumption) ?_
      | refine WR.gI rfl (by assumption) ?_
      | refine WR.gR rfl (by assumption) (by assumption) ?_
      | refine WR.gN rfl (by assumption) (by assumption) ?_
      | refine WR.gL rfl (by assumption) ?_
      | refine WR.addn rfl (by with_reducible rfl) (by with_reducible rfl) ?_
      | refine WR.muln rfl (by with_reducible rfl) (by with_reducible rfl) ?_
      | refine WR.subn rfl (by with_reducible rfl) (by with_reducible rfl) (by omega) ?_
      | (refine WR.decn rfl rfl ?_; dsimp only [List.set])
      | (refine WR.incn rfl rfl ?_; dsimp only [List.set])
      | (refine WR.go rfl rfl ?_; try dsimp only [List.set])
      | refine WR.aIk rfl (by assumption) rfl (by first | with_reducible rfl | with_reducible assumption) (by omega) (by with_reducible assumption) ?_
      | refine WR.aI rfl (by assumption) rfl (by first | with_reducible rfl | with_reducible assumption) (by omega) ?_
      | refine WR.sI rfl (by assumption) rfl (by first | with_reducible rfl | with_reducible assumption) (by omega) ?_
      | refine WR.pI rfl (by assumption) ?_
      | refine WR.rt rfl rfl rfl rfl ?_
      | refine WR.rz rfl rfl (by decide) ?_))
  refine WR.S1i rfl rfl (k_slot (d + 1) I hs) ?_
  rw [c_opn]
  iterate 2 (first
      | (with_reducible refine WR.lt (by omega) (by omega) (fun _ => ?_) (fun _ => ?_) <;> try (exfalso; omega))
      | (with_reducible refine WR.le (by omega) (by omega) (fun _ => ?_) (fun _ => ?_) <;> try (exfalso; omega))
      | (with_reducible refine WR.eq (by omega) (by omega) (fun _ => ?_) (fun _ => ?_) <;> try (exfalso; omega))
      | (with_reducible refine WR.ne (by omega) (by omega) (fun _ => ?_) (fun _ => ?_) <;> try (exfalso; omega))
      | with_reducible refine WR.lt0 (by omega) ?_
      | with_reducible refine WR.ge0 (by omega) ?_
      | (with_reducible refine WR.bz (fun _ => ?_) (fun _ => ?_) <;> try contradiction)
      | (with_reducible refine WR.bn (fun _ => ?_) (fun _ => ?_) <;> try contradiction)
      | (with_reducible refine WR.br (fun _ => ?_) (fun _ => ?_) <;> try contradiction)
      | refine WR.gIk rfl (by assumption) (by with_reducible assumption) ?_
      | refine WR.gI rfl (by assumption) ?_
      | refine WR.gR rfl (by assumption) (by assumption) ?_
      | refine WR.gN rfl (by assumption) (by assumption) ?_
      | refine WR.gL rfl (by assumption) ?_
      | refine WR.addn rfl (by with_reducible rfl) (by with_reducible rfl) ?_
      | refine WR.muln rfl (by with_reducible rfl) (by with_reducible rfl) ?_
      | refine WR.subn rfl (by with_reducible rfl) (by with_reducible rfl) (by omega) ?_
      | (refine WR.decn rfl rfl ?_; dsimp only [List.set])
      | (refine WR.incn rfl rfl ?_; dsimp only [List.set])
      | (refine WR.go rfl rfl ?_; try dsimp only [List.set])
      | refine WR.aIk rfl (by assumption) rfl (by first | with_reducible rfl | with_reducible assumption) (by omega) (by with_reducible assumption) ?_
      | refine WR.aI rfl (by assumption) rfl (by first | with_reducible rfl | with_reducible assumption) (by omega) ?_
      | refine WR.sI rfl (by assumption) rfl (by first | with_reducible rfl | with_reducible assumption) (by omega) ?_
      | refine WR.pI rfl (by assumption) ?_
      | refine WR.rt rfl rfl rfl rfl ?_
      | refine WR.rz rfl rfl (by decide) ?_)
  · rename_i h
    rw [h]
    repeat' (first
      | (with_reducible refine WR.lt (by omega) (by omega) (fun _ => ?_) (fun _ => ?_) <;> try (exfalso; omega))
      | (with_reducible refine WR.le (by omega) (by omega) (fun _ => ?_) (fun _ => ?_) <;> try (exfalso; omega))
      | (with_reducible refine WR.eq (by omega) (by omega) (fun _ => ?_) (fun _ => ?_) <;> try (exfalso; omega))
      | (with_reducible refine WR.ne (by omega) (by omega) (fun _ => ?_) (fun _ => ?_) <;> try (exfalso; omega))
      | with_reducible refine WR.lt0 (by omega) ?_
      | with_reducible refine WR.ge0 (by omega) ?_
      | (with_reducible refine WR.bz (fun _ => ?_) (fun _ => ?_) <;> try contradiction)
      | (with_reducible refine WR.bn (fun _ => ?_) (fun _ => ?_) <;> try contradiction)
      | (with_reducible refine WR.br (fun _ => ?_) (fun _ => ?_) <;> try contradiction)
      | refine WR.gIk rfl (by assumption) (by with_reducible assumption) ?_
      | refine WR.gI rfl (by assumption) ?_
      | refine WR.gR rfl (by assumption) (by assumption) ?_
      | refine WR.gN rfl (by assumption) (by assumption) ?_
      | refine WR.gL rfl (by assumption) ?_
      | refine WR.addn rfl (by with_reducible rfl) (by with_reducible rfl) ?_
      | refine WR.muln rfl (by with_reducible rfl) (by with_reducible rfl) ?_
      | refine WR.subn rfl (by with_reducible rfl) (by with_reducible rfl) (by omega) ?_
      | (refine WR.decn rfl rfl ?_; dsimp only [List.set])
      | (refine WR.incn rfl rfl ?_; dsimp only [List.set])
      | (refine WR.go rfl rfl ?_; try dsimp only [List.set])
      | refine WR.aIk rfl (by assumption) rfl (by first | with_reducible rfl | with_reducible assumption) (by omega) (by with_reducible assumption) ?_
      | refine WR.aI rfl (by assumption) rfl (by first | with_reducible rfl | with_reducible assumption) (by omega) ?_
      | refine WR.sI rfl (by assumption) rfl (by first | with_reducible rfl | with_reducible assumption) (by omega) ?_
      | refine WR.pI rfl (by assumption) ?_
      | refine WR.rt rfl rfl rfl rfl ?_
      | refine WR.rz rfl rfl (by decide) ?_)
    exact ⟨rfl, rfl⟩
  · rename_i h
    rw [h]
    repeat' ((with_reducible fail_if_success show WR _ _ _ 12 _ _ _ _); (first
      | (with_reducible refine WR.lt (by omega) (by omega) (fun _ => ?_) (fun _ => ?_) <;> try (exfalso; omega))
      | (with_reducible refine WR.le (by omega) (by omega) (fun _ => ?_) (fun _ => ?_) <;> try (exfalso; omega))
      | (with_reducible refine WR.eq (by omega) (by omega) (fun _ => ?_) (fun _ => ?_) <;> try (exfalso; omega))
      | (with_reducible refine WR.ne (by omega) (by omega) (fun _ => ?_) (fun _ => ?_) <;> try (exfalso; omega))
      | with_reducible refine WR.lt0 (by omega) ?_
      | with_reducible refine WR.ge0 (by omega) ?_
      | (with_reducible refine WR.bz (fun _ => ?_) (fun _ => ?_) <;> try contradiction)
      | (with_reducible refine WR.bn (fun _ => ?_) (fun _ => ?_) <;> try contradiction)
      | (with_reducible refine WR.br (fun _ => ?_) (fun _ => ?_) <;> try contradiction)
      | refine WR.gIk rfl (by assumption) (by with_reducible assumption) ?_
      | refine WR.gI rfl (by assumption) ?_
      | refine WR.gR rfl (by assumption) (by assumption) ?_
      | refine WR.gN rfl (by assumption) (by assumption) ?_
      | refine WR.gL rfl (by assumption) ?_
      | refine WR.addn rfl (by with_reducible rfl) (by with_reducible rfl) ?_
      | refine WR.muln rfl (by with_reducible rfl) (by with_reducible rfl) ?_
      | refine WR.subn rfl (by with_reducible rfl) (by with_reducible rfl) (by omega) ?_
      | (refine WR.decn rfl rfl ?_; dsimp only [List.set])
      | (refine WR.incn rfl rfl ?_; dsimp only [List.set])
      | (refine WR.go rfl rfl ?_; try dsimp only [List.set])
      | refine WR.aIk rfl (by assumption) rfl (by first | with_reducible rfl | with_reducible assumption) (by omega) (by with_reducible assumption) ?_
      | refine WR.aI rfl (by assumption) rfl (by first | with_reducible rfl | with_reducible assumption) (by omega) ?_
      | refine WR.sI rfl (by assumption) rfl (by first | with_reducible rfl | with_reducible assumption) (by omega) ?_
      | refine WR.pI rfl (by assumption) ?_
      | refine WR.rt rfl rfl rfl rfl ?_
      | refine WR.rz rfl rfl (by decide) ?_))
    refine WR.C1i rfl p7.1 rfl (k_chas d I hs p7) ?_
    iterate 2 (first
      | (with_reducible refine WR.lt (by omega) (by omega) (fun _ => ?_) (fun _ => ?_) <;> try (exfalso; omega))
      | (with_reducible refine WR.le (by omega) (by omega) (fun _ => ?_) (fun _ => ?_) <;> try (exfalso; omega))
      | (with_reducible refine WR.eq (by omega) (by omega) (fun _ => ?_) (fun _ => ?_) <;> try (exfalso; omega))
      | (with_reducible refine WR.ne (by omega) (by omega) (fun _ => ?_) (fun _ => ?_) <;> try (exfalso; omega))
      | with_reducible refine WR.lt0 (by omega) ?_
      | with_reducible refine WR.ge0 (by omega) ?_
      | (with_reducible refine WR.bz (fun _ => ?_) (fun _ => ?_) <;> try contradiction)
      | (with_reducible refine WR.bn (fun _ => ?_) (fun _ => ?_) <;> try contradiction)
      | (with_reducible refine WR.br (fun _ => ?_) (fun _ => ?_) <;> try contradiction)
      | refine WR.gIk rfl (by assumption) (by with_reducible assumption) ?_
      | refine WR.gI rfl (by assumption) ?_
      | refine WR.gR rfl (by assumption) (by assumption) ?_
      | refine WR.gN rfl (by assumption) (by assumption) ?_
      | refine WR.gL rfl (by assumption) ?_
      | refine WR.addn rfl (by with_reducible rfl) (by with_reducible rfl) ?_
      | refine WR.muln rfl (by with_reducible rfl) (by with_reducible rfl) ?_
      | refine WR.subn rfl (by with_reducible rfl) (by with_reducible rfl) (by omega) ?_
      | (refine WR.decn rfl rfl ?_; dsimp only [List.set])
      | (refine WR.incn rfl rfl ?_; dsimp only [List.set])
      | (refine WR.go rfl rfl ?_; try dsimp only [List.set])
      | refine WR.aIk rfl (by assumption) rfl (by first | with_reducible rfl | with_reducible assumption) (by omega) (by with_reducible assumption) ?_
      | refine WR.aI rfl (by assumption) rfl (by first | with_reducible rfl | with_reducible assumption) (by omega) ?_
      | refine WR.sI rfl (by assumption) rfl (by first | with_reducible rfl | with_reducible assumption) (by omega) ?_
      | refine WR.pI rfl (by assumption) ?_
      | refine WR.rt rfl rfl rfl rfl ?_
      | refine WR.rz rfl rfl (by decide) ?_)
    · rename_i h2
      rw [h2]
      repeat' (first
      | (with_reducible refine WR.lt (by omega) (by omega) (fun _ => ?_) (fun _ => ?_) <;> try (exfalso; omega))
      | (with_reducible refine WR.le (by omega) (by omega) (fun _ => ?_) (fun _ => ?_) <;> try (exfalso; omega))
      | (with_reducible refine WR.eq (by omega) (by omega) (fun _ => ?_) (fun _ => ?_) <;> try (exfalso; omega))
      | (with_reducible refine WR.ne (by omega) (by omega) (fun _ => ?_) (fun _ => ?_) <;> try (exfalso; omega))
      | with_reducible refine WR.lt0 (by omega) ?_
      | with_reducible refine WR.ge0 (by omega) ?_
      | (with_reducible refine WR.bz (fun _ => ?_) (fun _ => ?_) <;> try contradiction)
      | (with_reducible refine WR.bn (fun _ => ?_) (fun _ => ?_) <;> try contradiction)
      | (with_reducible refine WR.br (fun _ => ?_) (fun _ => ?_) <;> try contradiction)
      | refine WR.gIk rfl (by assumption) (by with_reducible assumption) ?_
      | refine WR.gI rfl (by assumption) ?_
      | refine WR.gR rfl (by assumption) (by assumption) ?_
      | refine WR.gN rfl (by assumption) (by assumption) ?_
      | refine WR.gL rfl (by assumption) ?_
      | refine WR.addn rfl (by with_reducible rfl) (by with_reducible rfl) ?_
      | refine WR.muln rfl (by with_reducible rfl) (by with_reducible rfl) ?_
      | refine WR.subn rfl (by with_reducible rfl) (by with_reducible rfl) (by omega) ?_
      | (refine WR.decn rfl rfl ?_; dsimp only [List.set])
      | (refine WR.incn rfl rfl ?_; dsimp only [List.set])
      | (refine WR.go rfl rfl ?_; try dsimp only [List.set])
      | refine WR.aIk rfl (by assumption) rfl (by first | with_reducible rfl | with_reducible assumption) (by omega) (by with_reducible assumption) ?_
      | refine WR.aI rfl (by assumption) rfl (by first | with_reducible rfl | with_reducible assumption) (by omega) ?_
      | refine WR.sI rfl (by assumption) rfl (by first | with_reducible rfl | with_reducible assumption) (by omega) ?_
      | refine WR.pI rfl (by assumption) ?_
      | refine WR.rt rfl rfl rfl rfl ?_
      | refine WR.rz rfl rfl (by decide) ?_)
      exact ⟨rfl, rfl⟩
    · rename_i h2
      rw [h2]
      repeat' ((with_reducible fail_if_success show WR _ _ _ 26 _ _ _ _); (first
      | (with_reducible refine WR.lt (by omega) (by omega) (fun _ => ?_) (fun _ => ?_) <;> try (exfalso; omega))
      | (with_reducible refine WR.le (by omega) (by omega) (fun _ => ?_) (fun _ => ?_) <;> try (exfalso; omega))
      | (with_reducible refine WR.eq (by omega) (by omega) (fun _ => ?_) (fun _ => ?_) <;> try (exfalso; omega))
      | (with_reducible refine WR.ne (by omega) (by omega) (fun _ => ?_) (fun _ => ?_) <;> try (exfalso; omega))
      | with_reducible refine WR.lt0 (by omega) ?_
      | with_reducible refine WR.ge0 (by omega) ?_
      | (with_reducible refine WR.bz (fun _ => ?_) (fun _ => ?_) <;> try contradiction)
      | (with_reducible refine WR.bn (fun _ => ?_) (fun _ => ?_) <;> try contradiction)
      | (with_reducible refine WR.br (fun _ => ?_) (fun _ => ?_) <;> try contradiction)
      | refine WR.gIk rfl (by assumption) (by with_reducible assumption) ?_
      | refine WR.gI rfl (by assumption) ?_
      | refine WR.gR rfl (by assumption) (by assumption) ?_
      | refine WR.gN rfl (by assumption) (by assumption) ?_
      | refine WR.gL rfl (by assumption) ?_
      | refine WR.addn rfl (by with_reducible rfl) (by with_reducible rfl) ?_
      | refine WR.muln rfl (by with_reducible rfl) (by with_reducible rfl) ?_
      | refine WR.subn rfl (by with_reducible rfl) (by with_reducible rfl) (by omega) ?_
      | (refine WR.decn rfl rfl ?_; dsimp only [List.set])
      | (refine WR.incn rfl rfl ?_; dsimp only [List.set])
      | (refine WR.go rfl rfl ?_; try dsimp only [List.set])
      | refine WR.aIk rfl (by assumption) rfl (by first | with_reducible rfl | with_reducible assumption) (by omega) (by with_reducible assumption) ?_
      | refine WR.aI rfl (by assumption) rfl (by first | with_reducible rfl | with_reducible assumption) (by omega) ?_
      | refine WR.sI rfl (by assumption) rfl (by first | with_reducible rfl | with_reducible assumption) (by omega) ?_
      | refine WR.pI rfl (by assumption) ?_
      | refine WR.rt rfl rfl rfl rfl ?_
      | refine WR.rz rfl rfl (by decide) ?_))
      refine WR.C1i rfl c6.1 rfl (k_chas d I hs c6) ?_
      iterate 2 (first
      | (with_reducible refine WR.lt (by omega) (by omega) (fun _ => ?_) (fun _ => ?_) <;> try (exfalso; omega))
      | (with_reducible refine WR.le (by omega) (by omega) (fun _ => ?_) (fun _ => ?_) <;> try (exfalso; omega))
      | (with_reducible refine WR.eq (by omega) (by omega) (fun _ => ?_) (fun _ => ?_) <;> try (exfalso; omega))
      | (with_reducible refine WR.ne (by omega) (by omega) (fun _ => ?_) (fun _ => ?_) <;> try (exfalso; omega))
      | with_reducible refine WR.lt0 (by omega) ?_
      | with_reducible refine WR.ge0 (by omega) ?_
      | (with_reducible refine WR.bz (fun _ => ?_) (fun _ => ?_) <;> try contradiction)
      | (with_reducible refine WR.bn (fun _ => ?_) (fun _ => ?_) <;> try contradiction)
      | (with_reducible refine WR.br (fun _ => ?_) (fun _ => ?_) <;> try contradiction)
      | refine WR.gIk rfl (by assumption) (by with_reducible assumption) ?_
      | refine WR.gI rfl (by assumption) ?_
      | refine WR.gR rfl (by assumption) (by assumption) ?_
      | refine WR.gN rfl (by assumption) (by assumption) ?_
      | refine WR.gL rfl (by assumption) ?_
      | refine WR.addn rfl (by with_reducible rfl) (by with_reducible rfl) ?_
      | refine WR.muln rfl (by with_reducible rfl) (by with_reducible rfl) ?_
      | refine WR.subn rfl (by with_reducible rfl) (by with_reducible rfl) (by omega) ?_
      | (refine WR.decn rfl rfl ?_; dsimp only [List.set])
      | (refine WR.incn rfl rfl ?_; dsimp only [List.set])
      | (refine WR.go rfl rfl ?_; try dsimp only [List.set])
      | refine WR.aIk rfl (by assumption) rfl (by first | with_reducible rfl | with_reducible assumption) (by omega) (by with_reducible assumption) ?_
      | refine WR.aI rfl (by assumption) rfl (by first | with_reducible rfl | with_reducible assumption) (by omega) ?_
      | refine WR.sI rfl (by assumption) rfl (by first | with_reducible rfl | with_reducible assumption) (by omega) ?_
      | refine WR.pI rfl (by assumption) ?_
      | refine WR.rt rfl rfl rfl rfl ?_
      | refine WR.rz rfl rfl (by decide) ?_)
      · rename_i h3
        rw [h3]
        repeat' (first
      | (with_reducible refine WR.lt (by omega) (by omega) (fun _ => ?_) (fun _ => ?_) <;> try (exfalso; omega))
      | (with_reducible refine WR.le (by omega) (by omega) (fun _ => ?_) (fun _ => ?_) <;> try (exfalso; omega))
      | (with_reducible refine WR.eq (by omega) (by omega) (fun _ => ?_) (fun _ => ?_) <;> try (exfalso; omega))
      | (with_reducible refine WR.ne (by omega) (by omega) (fun _ => ?_) (fun _ => ?_) <;> try (exfalso; omega))
      | with_reducible refine WR.lt0 (by omega) ?_
      | with_reducible refine WR.ge0 (by omega) ?_
      | (with_reducible refine WR.bz (fun _ => ?_) (fun _ => ?_) <;> try contradiction)
      | (with_reducible refine WR.bn (fun _ => ?_) (fun _ => ?_) <;> try contradiction)
      | (with_reducible refine WR.br (fun _ => ?_) (fun _ => ?_) <;> try contradiction)
      | refine WR.gIk rfl (by assumption) (by with_reducible assumption) ?_
      | refine WR.gI rfl (by assumption) ?_
      | refine WR.gR rfl (by assumption) (by assumption) ?_
      | refine WR.gN rfl (by assumption) (by assumption) ?_
      | refine WR.gL rfl (by assumption) ?_
      | refine WR.addn rfl (by with_reducible rfl) (by with_reducible rfl) ?_
      | refine WR.muln rfl (by with_reducible rfl) (by with_reducible rfl) ?_
      | refine WR.subn rfl (by with_reducible rfl) (by with_reducible rfl) (by omega) ?_
      | (refine WR.decn rfl rfl ?_; dsimp only [List.set])
      | (refine WR.incn rfl rfl ?_; dsimp only [List.set])
      | (refine WR.go rfl rfl ?_; try dsimp only [List.set])
      | refine WR.aIk rfl (by assumption) rfl (by first | with_reducible rfl | with_reducible assumption) (by omega) (by with_reducible assumption) ?_
      | refine WR.aI rfl (by assumption) rfl (by first | with_reducible rfl | with_reducible assumption) (by omega) ?_
      | refine WR.sI rfl (by assumption) rfl (by first | with_reducible rfl | with_reducible assumption) (by omega) ?_
      | refine WR.pI rfl (by assumption) ?_
      | refine WR.rt rfl rfl rfl rfl ?_
      | refine WR.rz rfl rfl (by decide) ?_)
        exact ⟨rfl, rfl⟩
      · rename_i h3
        rw [h3]
        repeat' (first
      | (with_reducible refine WR.lt (by omega) (by omega) (fun _ => ?_) (fun _ => ?_) <;> try (exfalso; omega))
      | (with_reducible refine WR.le (by omega) (by omega) (fun _ => ?_) (fun _ => ?_) <;> try (exfalso; omega))
      | (with_reducible refine WR.eq (by omega) (by omega) (fun _ => ?_) (fun _ => ?_) <;> try (exfalso; omega))
      | (with_reducible refine WR.ne (by omega) (by omega) (fun _ => ?_) (fun _ => ?_) <;> try (exfalso; omega))
      | with_reducible refine WR.lt0 (by omega) ?_
      | with_reducible refine WR.ge0 (by omega) ?_
      | (with_reducible refine WR.bz (fun _ => ?_) (fun _ => ?_) <;> try contradiction)
      | (with_reducible refine WR.bn (fun _ => ?_) (fun _ => ?_) <;> try contradiction)
      | (with_reducible refine WR.br (fun _ => ?_) (fun _ => ?_) <;> try contradiction)
      | refine WR.gIk rfl (by assumption) (by with_reducible assumption) ?_
      | refine WR.gI rfl (by assumption) ?_
      | refine WR.gR rfl (by assumption) (by assumption) ?_
      | refine WR.gN rfl (by assumption) (by assumption) ?_
      | refine WR.gL rfl (by assumption) ?_
      | refine WR.addn rfl (by with_reducible rfl) (by with_reducible rfl) ?_
      | refine WR.muln rfl (by with_reducible rfl) (by with_reducible rfl) ?_
      | refine WR.subn rfl (by with_reducible rfl) (by with_reducible rfl) (by omega) ?_
      | (refine WR.decn rfl rfl ?_; dsimp only [List.set])
      | (refine WR.incn rfl rfl ?_; dsimp only [List.set])
      | (refine WR.go rfl rfl ?_; try dsimp only [List.set])
      | refine WR.aIk rfl (by assumption) rfl (by first | with_reducible rfl | with_reducible assumption) (by omega) (by with_reducible assumption) ?_
      | refine WR.aI rfl (by assumption) rfl (by first | with_reducible rfl | with_reducible assumption) (by omega) ?_
      | refine WR.sI rfl (by assumption) rfl (by first | with_reducible rfl | with_reducible assumption) (by omega) ?_
      | refine WR.pI rfl (by assumption) ?_
      | refine WR.rt rfl rfl rfl rfl ?_
      | refine WR.rz rfl rfl (by decide) ?_)
        exact ⟨rfl, rfl⟩
set_option maxHeartbeats 1000000 in
theorem k_others (d : Nat) (I : xI) {p r : Nat} (hp : rpK Z p) (hr : I p 0 = nI r) : ER Z (d + 1) 33 I [.ref p] (fun I' v => I' = I ∧ v = some (.int (c_oth r))) := by
  obtain ⟨p1, p2, p3, p4, p5, p6, p7, p8, p9, _⟩ := hp
  refine ER.of (ls := [some (.ref p)]) rfl rfl ?_
  repeat' (first
      | (with_reducible refine WR.lt (by omega) (by omega) (fun _ => ?_) (fun _ => ?_) <;> try (exfalso; omega))
      | (with_reducible refine WR.le (by omega) (by omega) (fun _ => ?_) (fun _ => ?_) <;> try (exfalso; omega))
      | (with_reducible refine WR.eq (by omega) (by omega) (fun _ => ?_) (fun _ => ?_) <;> try (exfalso; omega))
      | (with_reducible refine WR.ne (by omega) (by omega) (fun _ => ?_) (fun _ => ?_) <;> try (exfalso; omega))
      | with_reducible refine WR.lt0 (by omega) ?_
      | with_reducible refine WR.ge0 (by omega) ?_
      | (with_reducible refine WR.bz (fun _ => ?_) (fun _ => ?_) <;> try contradiction)
      | (with_reducible refine WR.bn (fun _ => ?_) (fun _ => ?_) <;> try contradiction)
      | (with_reducible refine WR.br (fun _ => ?_) (fun _ => ?_) <;> try contradiction)
      | refine WR.gIk rfl (by assumption) (by with_reducible assumption) ?_
      | refine WR.gI rfl (by assumption) ?_
      | refine WR.gR rfl (by assumption) (by assumption) ?_
      | refine WR.gN rfl (by assumption) (by assumption) ?_
      | refine WR.gL rfl (by assumption) ?_
      | refine WR.addn rfl (by with_reducible rfl) (by with_reducible rfl) ?_
      | refine WR.muln rfl (by with_reducible rfl) (by with_reducible rfl) ?_
      | refine WR.subn rfl (by with_reducible rfl) (by with_reducible rfl) (by omega) ?_
      | (refine WR.decn rfl rfl ?_; dsimp only [List.set])
      | (refine WR.incn rfl rfl ?_; dsimp only [List.set])
      | (refine WR.go rfl rfl ?_; try dsimp only [List.set])
      | refine WR.aIk rfl (by assumption) rfl (by first | with_reducible rfl | with_reducible assumption) (by omega) (by with_reducible assumption) ?_
      | refine WR.aI rfl (by assumption) rfl (by first | with_reducible rfl | with_reducible assumption) (by omega) ?_
      | refine WR.sI rfl (by assumption) rfl (by first | with_reducible rfl | with_reducible assumption) (by omega) ?_
      | refine WR.pI rfl (by assumption) ?_
      | refine WR.rt rfl rfl rfl rfl ?_
      | refine WR.rz rfl rfl (by decide) ?_)
  exact ⟨rfl, rfl⟩
set_option maxHeartbeats 2000000 in
theorem k_foa (d : Nat) (I : xI) {p q f : Nat} (hp : rpK Z p) (hq : Z.2.2 p 7 = some q) (ho : stO Z I q f) : ER Z (d + 4) 29 I [.ref p] (fun I' v => I' = I ∧ v = some (.int (nI (c_foa I p f)))) := by
  have hp0 := hp
  obtain ⟨p1, p2, p3, p4, p5, p6, p7, p8, p9, _⟩ := hp
  have q1 := ho.1.1
  have q2 := ho.2.1
  have q3 := ho.2.2.1
  refine ER.of (ls := [some (.ref p), none, none]) rfl rfl ?_
  repeat' ((with_reducible fail_if_success show WR _ _ _ 27 _ _ _ _); (first
      | (with_reducible refine WR.lt (by omega) (by omega) (fun _ => ?_) (fun _ => ?_) <;> try (exfalso; omega))
      | (with_reducible refine WR.le (by omega) (by omega) (fun _ => ?_) (fun _ => ?_) <;> try (exfalso; omega))
      | (with_reducible refine WR.eq (by omega) (by omega) (fun _ => ?_) (fun _ => ?_) <;> try (exfalso; omega))
      | (with_reducible refine WR.ne (by omega) (by omega) (fun _ => ?_) (fun _ => ?_) <;> try (exfalso; omega))
      | with_reducible refine WR.lt0 (by omega) ?_
      | with_reducible refine WR.ge0 (by omega) ?_
      | (with_reducible refine WR.bz (fun _ => ?_) (fun _ => ?_) <;> try contradiction)
      | (with_reducible refine WR.bn (fun _ => ?_) (fun _ => ?_) <;> try contradiction)
      | (with_reducible refine WR.br (fun _ => ?_) (fun _ => ?_) <;> try contradiction)
      | refine WR.gIk rfl (by assumption) (by with_reducible assumption) ?_
      | refine WR.gI rfl (by assumption) ?_
      | refine WR.gR rfl (by assumption) (by assumption) ?_
      | refine WR.gN rfl (by assumption) (by assumption) ?_
      | refine WR.gL rfl (by assumption) ?_
      | refine WR.addn rfl (by with_reducible rfl) (by with_reducible rfl) ?_
      | refine WR.muln rfl (by with_reducible rfl) (by with_reducible rfl) ?_
      | refine WR.subn rfl (by with_reducible rfl) (by with_reducible rfl) (by omega) ?_
      | (refine WR.decn rfl rfl ?_; dsimp only [List.set])
      | (refine WR.incn rfl rfl ?_; dsimp only [List.set])
      | (refine WR.go rfl rfl ?_; try dsimp only [List.set])
      | refine WR.aIk rfl (by assumption) rfl (by first | with_reducible rfl | with_reducible assumption) (by omega) (by with_reducible assumption) ?_
      | refine WR.aI rfl (by assumption) rfl (by first | with_reducible rfl | with_reducible assumption) (by omega) ?_
      | refine WR.sI rfl (by assumption) rfl (by first | with_reducible rfl | with_reducible assumption) (by omega) ?_
      | refine WR.pI rfl (by assumption) ?_
      | refine WR.rt rfl rfl rfl rfl ?_
      | refine WR.rz rfl rfl (by decide) ?_))
  refine WR.C1i rfl p1 rfl (k_open d I hp0 (by omega)) ?_
  rw [c_foa]
  iterate 2 (first
      | (with_reducible refine WR.lt (by omega) (by omega) (fun _ => ?_) (fun _ => ?_) <;> try (exfalso; omega))
      | (with_reducible refine WR.le (by omega) (by omega) (fun _ => ?_) (fun _ => ?_) <;> try (exfalso; omega))
      | (with_reducible refine WR.eq (by omega) (by omega) (fun _ => ?_) (fun _ => ?_) <;> try (exfalso; omega))
      | (with_reducible refine WR.ne (by omega) (by omega) (fun _ => ?_) (fun _ => ?_) <;> try (exfalso; omega))
      | with_reducible refine WR.lt0 (by omega) ?_
      | with_reducible refine WR.ge0 (by omega) ?_
      | (with_reducible refine WR.bz (fun _ => ?_) (fun _ => ?_) <;> try contradiction)
      | (with_reducible refine WR.bn (fun _ => ?_) (fun _ => ?_) <;> try contradiction)
      | (with_reducible refine WR.br (fun _ => ?_) (fun _ => ?_) <;> try contradiction)
      | refine WR.gIk rfl (by assumption) (by with_reducible assumption) ?_
      | refine WR.gI rfl (by assumption) ?_
      | refine WR.gR rfl (by assumption) (by assumption) ?_
      | refine WR.gN rfl (by assumption) (by assumption) ?_
      | refine WR.gL rfl (by assumption) ?_
      | refine WR.addn rfl (by with_reducible rfl) (by with_reducible rfl) ?_
      | refine WR.muln rfl (by with_reducible rfl) (by with_reducible rfl) ?_
      | refine WR.subn rfl (by with_reducible rfl) (by with_reducible rfl) (by omega) ?_
      | (refine WR.decn rfl rfl ?_; dsimp only [List.set])
      | (refine WR.incn rfl rfl ?_; dsimp only [List.set])
      | (refine WR.go rfl rfl ?_; try dsimp only [List.set])
      | refine WR.aIk rfl (by assumption) rfl (by first | with_reducible rfl | with_reducible assumption) (by omega) (by with_reducible assumption) ?_
      | refine WR.aI rfl (by assumption) rfl (by first | with_reducible rfl | with_reducible assumption) (by omega) ?_
      | refine WR.sI rfl (by assumption) rfl (by first | with_reducible rfl | with_reducible assumption) (by omega) ?_
      | refine WR.pI rfl (by assumption) ?_
      | refine WR.rt rfl rfl rfl rfl ?_
      | refine WR.rz rfl rfl (by decide) ?_)
  · rename_i h
    rw [if_neg (by simp [h])]
    repeat' ((with_reducible fail_if_success show WR _ _ _ 27 _ _ _ _); (first
      | (with_reducible refine WR.lt (by omega) (by omega) (fun _ => ?_) (fun _ => ?_) <;> try (exfalso; omega))
      | (with_reducible refine WR.le (by omega) (by omega) (fun _ => ?_) (fun _ => ?_) <;> try (exfalso; omega))
      | (with_reducible refine WR.eq (by omega) (by omega) (fun _ => ?_) (fun _ => ?_) <;> try (exfalso; omega))
      | (with_reducible refine WR.ne (by omega) (by omega) (fun _ => ?_) (fun _ => ?_) <;> try (exfalso; omega))
      | with_reducible refine WR.lt0 (by omega) ?_
      | with_reducible refine WR.ge0 (by omega) ?_
      | (with_reducible refine WR.bz (fun _ => ?_) (fun _ => ?_) <;> try contradiction)
      | (with_reducible refine WR.bn (fun _ => ?_) (fun _ => ?_) <;> try contradiction)
      | (with_reducible refine WR.br (fun _ => ?_) (fun _ => ?_) <;> try contradiction)
      | refine WR.gIk rfl (by assumption) (by with_reducible assumption) ?_
      | refine WR.gI rfl (by assumption) ?_
      | refine WR.gR rfl (by assumption) (by assumption) ?_
      | refine WR.gN rfl (by assumption) (by assumption) ?_
      | refine WR.gL rfl (by assumption) ?_
      | refine WR.addn rfl (by with_reducible rfl) (by with_reducible rfl) ?_
      | refine WR.muln rfl (by with_reducible rfl) (by with_reducible rfl) ?_
      | refine WR.subn rfl (by with_reducible rfl) (by with_reducible rfl) (by omega) ?_
      | (refine WR.decn rfl rfl ?_; dsimp only [List.set])
      | (refine WR.incn rfl rfl ?_; dsimp only [List.set])
      | (refine WR.go rfl rfl ?_; try dsimp only [List.set])
      | refine WR.aIk rfl (by assumption) rfl (by first | with_reducible rfl | with_reducible assumption) (by omega) (by with_reducible assumption) ?_
      | refine WR.aI rfl (by assumption) rfl (by first | with_reducible rfl | with_reducible assumption) (by omega) ?_
      | refine WR.sI rfl (by assumption) rfl (by first | with_reducible rfl | with_reducible assumption) (by omega) ?_
      | refine WR.pI rfl (by assumption) ?_
      | refine WR.rt rfl rfl rfl rfl ?_
      | refine WR.rz rfl rfl (by decide) ?_))
    refine WR.C1i rfl p1 rfl (k_open d I hp0 (by omega)) ?_
    iterate 2 (first
      | (with_reducible refine WR.lt (by omega) (by omega) (fun _ => ?_) (fun _ => ?_) <;> try (exfalso; omega))
      | (with_reducible refine WR.le (by omega) (by omega) (fun _ => ?_) (fun _ => ?_) <;> try (exfalso; omega))
      | (with_reducible refine WR.eq (by omega) (by omega) (fun _ => ?_) (fun _ => ?_) <;> try (exfalso; omega))
      | (with_reducible refine WR.ne (by omega) (by omega) (fun _ => ?_) (fun _ => ?_) <;> try (exfalso; omega))
      | with_reducible refine WR.lt0 (by omega) ?_
      | with_reducible refine WR.ge0 (by omega) ?_
      | (with_reducible refine WR.bz (fun _ => ?_) (fun _ => ?_) <;> try contradiction)
      | (with_reducible refine WR.bn (fun _ => ?_) (fun _ => ?_) <;> try contradiction)
      | (with_reducible refine WR.br (fun _ => ?_) (fun _ => ?_) <;> try contradiction)
      | refine WR.gIk rfl (by assumption) (by with_reducible assumption) ?_
      | refine WR.gI rfl (by assumption) ?_
      | refine WR.gR rfl (by assumption) (by assumption) ?_
      | refine WR.gN rfl (by assumption) (by assumption) ?_
      | refine WR.gL rfl (by assumption) ?_
      | refine WR.addn rfl (by with_reducible rfl) (by with_reducible rfl) ?_
      | refine WR.muln rfl (by with_reducible rfl) (by with_reducible rfl) ?_
      | refine WR.subn rfl (by with_reducible rfl) (by with_reducible rfl) (by omega) ?_
      | (refine WR.decn rfl rfl ?_; dsimp only [List.set])
      | (refine WR.incn rfl rfl ?_; dsimp only [List.set])
      | (refine WR.go rfl rfl ?_; try dsimp only [List.set])
      | refine WR.aIk rfl (by assumption) rfl (by first | with_reducible rfl | with_reducible assumption) (by omega) (by with_reducible assumption) ?_
      | refine WR.aI rfl (by assumption) rfl (by first | with_reducible rfl | with_reducible assumption) (by omega) ?_
      | refine WR.sI rfl (by assumption) rfl (by first | with_reducible rfl | with_reducible assumption) (by omega) ?_
      | refine WR.pI rfl (by assumption) ?_
      | refine WR.rt rfl rfl rfl rfl ?_
      | refine WR.rz rfl rfl (by decide) ?_)
    · rename_i h2
      rw [if_neg (by simp [h2])]
      repeat' ((with_reducible fail_if_success show WR _ _ _ 27 _ _ _ _); (first
      | (with_reducible refine WR.lt (by omega) (by omega) (fun _ => ?_) (fun _ => ?_) <;> try (exfalso; omega))
      | (with_reducible refine WR.le (by omega) (by omega) (fun _ => ?_) (fun _ => ?_) <;> try (exfalso; omega))
      | (with_reducible refine WR.eq (by omega) (by omega) (fun _ => ?_) (fun _ => ?_) <;> try (exfalso; omega))
      | (with_reducible refine WR.ne (by omega) (by omega) (fun _ => ?_) (fun _ => ?_) <;> try (exfalso; omega))
      | with_reducible refine WR.lt0 (by omega) ?_
      | with_reducible refine WR.ge0 (by omega) ?_
      | (with_reducible refine WR.bz (fun _ => ?_) (fun _ => ?_) <;> try contradiction)
      | (with_reducible refine WR.bn (fun _ => ?_) (fun _ => ?_) <;> try contradiction)
      | (with_reducible refine WR.br (fun _ => ?_) (fun _ => ?_) <;> try contradiction)
      | refine WR.gIk rfl (by assumption) (by with_reducible assumption) ?_
      | refine WR.gI rfl (by assumption) ?_
      | refine WR.gR rfl (by assumption) (by assumption) ?_
      | refine WR.gN rfl (by assumption) (by assumption) ?_
      | refine WR.gL rfl (by assumption) ?_
      | refine WR.addn rfl (by with_reducible rfl) (by with_reducible rfl) ?_
      | refine WR.muln rfl (by with_reducible rfl) (by with_reducible rfl) ?_
      | refine WR.subn rfl (by with_reducible rfl) (by with_reducible rfl) (by omega) ?_
      | (refine WR.decn rfl rfl ?_; dsimp only [List.set])
      | (refine WR.incn rfl rfl ?_; dsimp only [List.set])
      | (refine WR.go rfl rfl ?_; try dsimp only [List.set])
      | refine WR.aIk rfl (by assumption) rfl (by first | with_reducible rfl | with_reducible assumption) (by omega) (by with_reducible assumption) ?_
      | refine WR.aI rfl (by assumption) rfl (by first | with_reducible rfl | with_reducible assumption) (by omega) ?_
      | refine WR.sI rfl (by assumption) rfl (by first | with_reducible rfl | with_reducible assumption) (by omega) ?_
      | refine WR.pI rfl (by assumption) ?_
      | refine WR.rt rfl rfl rfl rfl ?_
      | refine WR.rz rfl rfl (by decide) ?_))
      refine WR.C1i rfl p1 rfl (k_open d I hp0 (by omega)) ?_
      iterate 2 (first
      | (with_reducible refine WR.lt (by omega) (by omega) (fun _ => ?_) (fun _ => ?_) <;> try (exfalso; omega))
      | (with_reducible refine WR.le (by omega) (by omega) (fun _ => ?_) (fun _ => ?_) <;> try (exfalso; omega))
      | (with_reducible refine WR.eq (by omega) (by omega) (fun _ => ?_) (fun _ => ?_) <;> try (exfalso; omega))
      | (with_reducible refine WR.ne (by omega) (by omega) (fun _ => ?_) (fun _ => ?_) <;> try (exfalso; omega))
      | with_reducible refine WR.lt0 (by omega) ?_
      | with_reducible refine WR.ge0 (by omega) ?_
      | (with_reducible refine WR.bz (fun _ => ?_) (fun _ => ?_) <;> try contradiction)
      | (with_reducible refine WR.bn (fun _ => ?_) (fun _ => ?_) <;> try contradiction)
      | (with_reducible refine WR.br (fun _ => ?_) (fun _ => ?_) <;> try contradiction)
      | refine WR.gIk rfl (by assumption) (by with_reducible assumption) ?_
      | refine WR.gI rfl (by assumption) ?_
      | refine WR.gR rfl (by assumption) (by assumption) ?_
      | refine WR.gN rfl (by assumption) (by assumption) ?_
      | refine WR.gL rfl (by assumption) ?_
      | refine WR.addn rfl (by with_reducible rfl) (by with_reducible rfl) ?_
      | refine WR.muln rfl (by with_reducible rfl) (by with_reducible rfl) ?_
      | refine WR.subn rfl (by with_reducible rfl) (by with_reducible rfl) (by omega) ?_
      | (refine WR.decn rfl rfl ?_; dsimp only [List.set])
      | (refine WR.incn rfl rfl ?_; dsimp only [List.set])
      | (refine WR.go rfl rfl ?_; try dsimp only [List.set])
      | refine WR.aIk rfl (by assumption) rfl (by first | with_reducible rfl | with_reducible assumption) (by omega) (by with_reducible assumption) ?_
      | refine WR.aI rfl (by assumption) rfl (by first | with_reducible rfl | with_reducible assumption) (by omega) ?_
      | refine WR.sI rfl (by assumption) rfl (by first | with_reducible rfl | with_reducible assumption) (by omega) ?_
      | refine WR.pI rfl (by assumption) ?_
      | refine WR.rt rfl rfl rfl rfl ?_
      | refine WR.rz rfl rfl (by decide) ?_)
      · rename_i h3
        rw [if_neg (by simp [h3])]
        repeat' (first
      | (with_reducible refine WR.lt (by omega) (by omega) (fun _ => ?_) (fun _ => ?_) <;> try (exfalso; omega))
      | (with_reducible refine WR.le (by omega) (by omega) (fun _ => ?_) (fun _ => ?_) <;> try (exfalso; omega))
      | (with_reducible refine WR.eq (by omega) (by omega) (fun _ => ?_) (fun _ => ?_) <;> try (exfalso; omega))
      | (with_reducible refine WR.ne (by omega) (by omega) (fun _ => ?_) (fun _ => ?_) <;> try (exfalso; omega))
      | with_reducible refine WR.lt0 (by omega) ?_
      | with_reducible refine WR.ge0 (by omega) ?_
      | (with_reducible refine WR.bz (fun _ => ?_) (fun _ => ?_) <;> try contradiction)
      | (with_reducible refine WR.bn (fun _ => ?_) (fun _ => ?_) <;> try contradiction)
      | (with_reducible refine WR.br (fun _ => ?_) (fun _ => ?_) <;> try contradiction)
      | refine WR.gIk rfl (by assumption) (by with_reducible assumption) ?_
      | refine WR.gI rfl (by assumption) ?_
      | refine WR.gR rfl (by assumption) (by assumption) ?_
      | refine WR.gN rfl (by assumption) (by assumption) ?_
      | refine WR.gL rfl (by assumption) ?_
      | refine WR.addn rfl (by with_reducible rfl) (by with_reducible rfl) ?_
      | refine WR.muln rfl (by with_reducible rfl) (by with_reducible rfl) ?_
      | refine WR.subn rfl (by with_reducible rfl) (by with_reducible rfl) (by omega) ?_
      | (refine WR.decn rfl rfl ?_; dsimp only [List.set])
      | (refine WR.incn rfl rfl ?_; dsimp only [List.set])
      | (refine WR.go rfl rfl ?_; try dsimp only [List.set])
      | refine WR.aIk rfl (by assumption) rfl (by first | with_reducible rfl | with_reducible assumption) (by omega) (by with_reducible assumption) ?_
      | refine WR.aI rfl (by assumption) rfl (by first | with_reducible rfl | with_reducible assumption) (by omega) ?_
      | refine WR.sI rfl (by assumption) rfl (by first | with_reducible rfl | with_reducible assumption) (by omega) ?_
      | refine WR.pI rfl (by assumption) ?_
      | refine WR.rt rfl rfl rfl rfl ?_
      | refine WR.rz rfl rfl (by decide) ?_)
        exact ⟨rfl, rfl⟩
      · rename_i h3
        rw [if_pos h3]
        repeat' (first
      | (with_reducible refine WR.lt (by omega) (by omega) (fun _ => ?_) (fun _ => ?_) <;> try (exfalso; omega))
      | (with_reducible refine WR.le (by omega) (by omega) (fun _ => ?_) (fun _ => ?_) <;> try (exfalso; omega))
      | (with_reducible refine WR.eq (by omega) (by omega) (fun _ => ?_) (fun _ => ?_) <;> try (exfalso; omega))
      | (with_reducible refine WR.ne (by omega) (by omega) (fun _ => ?_) (fun _ => ?_) <;> try (exfalso; omega))
      | with_reducible refine WR.lt0 (by omega) ?_
      | with_reducible refine WR.ge0 (by omega) ?_
      | (with_reducible refine WR.bz (fun _ => ?_) (fun _ => ?_) <;> try contradiction)
      | (with_reducible refine WR.bn (fun _ => ?_) (fun _ => ?_) <;> try contradiction)
      | (with_reducible refine WR.br (fun _ => ?_) (fun _ => ?_) <;> try contradiction)
      | refine WR.gIk rfl (by assumption) (by with_reducible assumption) ?_
      | refine WR.gI rfl (by assumption) ?_
      | refine WR.gR rfl (by assumption) (by assumption) ?_
      | refine WR.gN rfl (by assumption) (by assumption) ?_
      | refine WR.gL rfl (by assumption) ?_
      | refine WR.addn rfl (by with_reducible rfl) (by with_reducible rfl) ?_
      | refine WR.muln rfl (by with_reducible rfl) (by with_reducible rfl) ?_
      | refine WR.subn rfl (by with_reducible rfl) (by with_reducible rfl) (by omega) ?_
      | (refine WR.decn rfl rfl ?_; dsimp only [List.set])
      | (refine WR.incn rfl rfl ?_; dsimp only [List.set])
      | (refine WR.go rfl rfl ?_; try dsimp only [List.set])
      | refine WR.aIk rfl (by assumption) rfl (by first | with_reducible rfl | with_reducible assumption) (by omega) (by with_reducible assumption) ?_
      | refine WR.aI rfl (by assumption) rfl (by first | with_reducible rfl | with_reducible assumption) (by omega) ?_
      | refine WR.sI rfl (by assumption) rfl (by first | with_reducible rfl | with_reducible assumption) (by omega) ?_
      | refine WR.pI rfl (by assumption) ?_
      | refine WR.rt rfl rfl rfl rfl ?_
      | refine WR.rz rfl rfl (by decide) ?_)
        exact ⟨rfl, rfl⟩
    · rename_i h2
      rw [if_pos h2]
      repeat' (first
      | (with_reducible refine WR.lt (by omega) (by omega) (fun _ => ?_) (fun _ => ?_) <;> try (exfalso; omega))
      | (with_reducible refine WR.le (by omega) (by omega) (fun _ => ?_) (fun _ => ?_) <;> try (exfalso; omega))
      | (with_reducible refine WR.eq (by omega) (by omega) (fun _ => ?_) (fun _ => ?_) <;> try (exfalso; omega))
      | (with_reducible refine WR.ne (by omega) (by omega) (fun _ => ?_) (fun _ => ?_) <;> try (exfalso; omega))
      | with_reducible refine WR.lt0 (by omega) ?_
      | with_reducible refine WR.ge0 (by omega) ?_
      | (with_reducible refine WR.bz (fun _ => ?_) (fun _ => ?_) <;> try contradiction)
      | (with_reducible refine WR.bn (fun _ => ?_) (fun _ => ?_) <;> try contradiction)
      | (with_reducible refine WR.br (fun _ => ?_) (fun _ => ?_) <;> try contradiction)
      | refine WR.gIk rfl (by assumption) (by with_reducible assumption) ?_
      | refine WR.gI rfl (by assumption) ?_
      | refine WR.gR rfl (by assumption) (by assumption) ?_
      | refine WR.gN rfl (by assumption) (by assumption) ?_
      | refine WR.gL rfl (by assumption) ?_
      | refine WR.addn rfl (by with_reducible rfl) (by with_reducible rfl) ?_
      | refine WR.muln rfl (by with_reducible rfl) (by with_reducible rfl) ?_
      | refine WR.subn rfl (by with_reducible rfl) (by with_reducible rfl) (by omega) ?_
      | (refine WR.decn rfl rfl ?_; dsimp only [List.set])
      | (refine WR.incn rfl rfl ?_; dsimp only [List.set])
      | (refine WR.go rfl rfl ?_; try dsimp only [List.set])
      | refine WR.aIk rfl (by assumption) rfl (by first | with_reducible rfl | with_reducible assumption) (by omega) (by with_reducible assumption) ?_
      | refine WR.aI rfl (by assumption) rfl (by first | with_reducible rfl | with_reducible assumption) (by omega) ?_
      | refine WR.sI rfl (by assumption) rfl (by first | with_reducible rfl | with_reducible assumption) (by omega) ?_
      | refine WR.pI rfl (by assumption) ?_
      | refine WR.rt rfl rfl rfl rfl ?_
      | refine WR.rz rfl rfl (by decide) ?_)
      exact ⟨rfl, rfl⟩
  · rename_i h
    rw [if_pos h]
    repeat' (first
      | (with_reducible refine WR.lt (by omega) (by omega) (fun _ => ?_) (fun _ => ?_) <;> try (exfalso; omega))
      | (with_reducible refine WR.le (by omega) (by omega) (fun _ => ?_) (fun _ => ?_) <;> try (exfalso; omega))
      | (with_reducible refine WR.eq (by omega) (by omega) (fun _ => ?_) (fun _ => ?_) <;> try (exfalso; omega))
      | (with_reducible refine WR.ne (by omega) (by omega) (fun _ => ?_) (fun _ => ?_) <;> try (exfalso; omega))
      | with_reducible refine WR.lt0 (by omega) ?_
      | with_reducible refine WR.ge0 (by omega) ?_
      | (with_reducible refine WR.bz (fun _ => ?_) (fun _ => ?_) <;> try contradiction)
      | (with_reducible refine WR.bn (fun _ => ?_) (fun _ => ?_) <;> try contradiction)
      | (with_reducible refine WR.br (fun _ => ?_) (fun _ => ?_) <;> try contradiction)
      | refine WR.gIk rfl (by assumption) (by with_reducible assumption) ?_
      | refine WR.gI rfl (by assumption) ?_
      | refine WR.gR rfl (by assumption) (by assumption) ?_
      | refine WR.gN rfl (by assumption) (by assumption) ?_
      | refine WR.gL rfl (by assumption) ?_
      | refine WR.addn rfl (by with_reducible rfl) (by with_reducible rfl) ?_
      | refine WR.muln rfl (by with_reducible rfl) (by with_reducible rfl) ?_
      | refine WR.subn rfl (by with_reducible rfl) (by with_reducible rfl) (by omega) ?_
      | (refine WR.decn rfl rfl ?_; dsimp only [List.set])
      | (refine WR.incn rfl rfl ?_; dsimp only [List.set])
      | (refine WR.go rfl rfl ?_; try dsimp only [List.set])
      | refine WR.aIk rfl (by assumption) rfl (by first | with_reducible rfl | with_reducible assumption) (by omega) (by with_reducible assumption) ?_
      | refine WR.aI rfl (by assumption) rfl (by first | with_reducible rfl | with_reducible assumption) (by omega) ?_
      | refine WR.sI rfl (by assumption) rfl (by first | with_reducible rfl | with_reducible assumption) (by omega) ?_
      | refine WR.pI rfl (by assumption) ?_
      | refine WR.rt rfl rfl rfl rfl ?_
      | refine WR.rz rfl rfl (by decide) ?_)
    exact ⟨rfl, rfl⟩
set_option maxHeartbeats 2000000 in
theorem k_due (d : Nat) (I : xI) {p q f s : Nat} (hp : rpK Z p) (hq : Z.2.2 p 7 = some q) (ho : stO Z I q f) (h1 : f < s) (h2 : s < 2 ^ 30) : ER Z (d + 4) 50 I [.ref p, .int (nI s)] (fun I' v => I' = I ∧ v = some (.int (c_due I p q f s))) := by
  have hp0 := hp
  obtain ⟨p1, p2, p3, p4, p5, p6, p7, p8, c1, c2, c3, c4, c5, c6, c7⟩ := hp
  refine ER.of (ls := [some (.ref p), some (.int (nI s)), none]) rfl rfl ?_
  repeat' ((with_reducible fail_if_success show WR _ _ _ 1 _ _ _ _); (first
      | (with_reducible refine WR.lt (by omega) (by omega) (fun _ => ?_) (fun _ => ?_) <;> try (exfalso; omega))
      | (with_reducible refine WR.le (by omega) (by omega) (fun _ => ?_) (fun _ => ?_) <;> try (exfalso; omega))
      | (with_reducible refine WR.eq (by omega) (by omega) (fun _ => ?_) (fun _ => ?_) <;> try (exfalso; omega))
      | (with_reducible refine WR.ne (by omega) (by omega) (fun _ => ?_) (fun _ => ?_) <;> try (exfalso; omega))
      | with_reducible refine WR.lt0 (by omega) ?_
      | with_reducible refine WR.ge0 (by omega) ?_
      | (with_reducible refine WR.bz (fun _ => ?_) (fun _ => ?_) <;> try contradiction)
      | (with_reducible refine WR.bn (fun _ => ?_) (fun _ => ?_) <;> try contradiction)
      | (with_reducible refine WR.br (fun _ => ?_) (fun _ => ?_) <;> try contradiction)
      | refine WR.gIk rfl (by assumption) (by with_reducible assumption) ?_
      | refine WR.gI rfl (by assumption) ?_
      | refine WR.gR rfl (by assumption) (by assumption) ?_
      | refine WR.gN rfl (by assumption) (by assumption) ?_
      | refine WR.gL rfl (by assumption) ?_
      | refine WR.addn rfl (by with_reducible rfl) (by with_reducible rfl) ?_
      | refine WR.muln rfl (by with_reducible rfl) (by with_reducible rfl) ?_
      | refine WR.subn rfl (by with_reducible rfl) (by with_reducible rfl) (by omega) ?_
      | (refine WR.decn rfl rfl ?_; dsimp only [List.set])
      | (refine WR.incn rfl rfl ?_; dsimp only [List.set])
      | (refine WR.go rfl rfl ?_; try dsimp only [List.set])
      | refine WR.aIk rfl (by assumption) rfl (by first | with_reducible rfl | with_reducible assumption) (by omega) (by with_reducible assumption) ?_
      | refine WR.aI rfl (by assumption) rfl (by first | with_reducible rfl | with_reducible assumption) (by omega) ?_
      | refine WR.sI rfl (by assumption) rfl (by first | with_reducible rfl | with_reducible assumption) (by omega) ?_
      | refine WR.pI rfl (by assumption) ?_
      | refine WR.rt rfl rfl rfl rfl ?_
      | refine WR.rz rfl rfl (by decide) ?_))
  refine WR.C0i rfl p1 rfl (k_camps (d + 2) I hp0) ?_
  rw [c_due]
  iterate 2 (first
      | (with_reducible refine WR.lt (by omega) (by omega) (fun _ => ?_) (fun _ => ?_) <;> try (exfalso; omega))
      | (with_reducible refine WR.le (by omega) (by omega) (fun _ => ?_) (fun _ => ?_) <;> try (exfalso; omega))
      | (with_reducible refine WR.eq (by omega) (by omega) (fun _ => ?_) (fun _ => ?_) <;> try (exfalso; omega))
      | (with_reducible refine WR.ne (by omega) (by omega) (fun _ => ?_) (fun _ => ?_) <;> try (exfalso; omega))
      | with_reducible refine WR.lt0 (by omega) ?_
      | with_reducible refine WR.ge0 (by omega) ?_
      | (with_reducible refine WR.bz (fun _ => ?_) (fun _ => ?_) <;> try contradiction)
      | (with_reducible refine WR.bn (fun _ => ?_) (fun _ => ?_) <;> try contradiction)
      | (with_reducible refine WR.br (fun _ => ?_) (fun _ => ?_) <;> try contradiction)
      | refine WR.gIk rfl (by assumption) (by with_reducible assumption) ?_
      | refine WR.gI rfl (by assumption) ?_
      | refine WR.gR rfl (by assumption) (by assumption) ?_
      | refine WR.gN rfl (by assumption) (by assumption) ?_
      | refine WR.gL rfl (by assumption) ?_
      | refine WR.addn rfl (by with_reducible rfl) (by with_reducible rfl) ?_
      | refine WR.muln rfl (by with_reducible rfl) (by with_reducible rfl) ?_
      | refine WR.subn rfl (by with_reducible rfl) (by with_reducible rfl) (by omega) ?_
      | (refine WR.decn rfl rfl ?_; dsimp only [List.set])
      | (refine WR.incn rfl rfl ?_; dsimp only [List.set])
      | (refine WR.go rfl rfl ?_; try dsimp only [List.set])
      | refine WR.aIk rfl (by assumption) rfl (by first | with_reducible rfl | with_reducible assumption) (by omega) (by with_reducible assumption) ?_
      | refine WR.aI rfl (by assumption) rfl (by first | with_reducible rfl | with_reducible assumption) (by omega) ?_
      | refine WR.sI rfl (by assumption) rfl (by first | with_reducible rfl | with_reducible assumption) (by omega) ?_
      | refine WR.pI rfl (by assumption) ?_
      | refine WR.rt rfl rfl rfl rfl ?_
      | refine WR.rz rfl rfl (by decide) ?_)
  · rename_i h
    rw [h]
    repeat' (first
      | (with_reducible refine WR.lt (by omega) (by omega) (fun _ => ?_) (fun _ => ?_) <;> try (exfalso; omega))
      | (with_reducible refine WR.le (by omega) (by omega) (fun _ => ?_) (fun _ => ?_) <;> try (exfalso; omega))
      | (with_reducible refine WR.eq (by omega) (by omega) (fun _ => ?_) (fun _ => ?_) <;> try (exfalso; omega))
      | (with_reducible refine WR.ne (by omega) (by omega) (fun _ => ?_) (fun _ => ?_) <;> try (exfalso; omega))
      | with_reducible refine WR.lt0 (by omega) ?_
      | with_reducible refine WR.ge0 (by omega) ?_
      | (with_reducible refine WR.bz (fun _ => ?_) (fun _ => ?_) <;> try contradiction)
      | (with_reducible refine WR.bn (fun _ => ?_) (fun _ => ?_) <;> try contradiction)
      | (with_reducible refine WR.br (fun _ => ?_) (fun _ => ?_) <;> try contradiction)
      | refine WR.gIk rfl (by assumption) (by with_reducible assumption) ?_
      | refine WR.gI rfl (by assumption) ?_
      | refine WR.gR rfl (by assumption) (by assumption) ?_
      | refine WR.gN rfl (by assumption) (by assumption) ?_
      | refine WR.gL rfl (by assumption) ?_
      | refine WR.addn rfl (by with_reducible rfl) (by with_reducible rfl) ?_
      | refine WR.muln rfl (by with_reducible rfl) (by with_reducible rfl) ?_
      | refine WR.subn rfl (by with_reducible rfl) (by with_reducible rfl) (by omega) ?_
      | (refine WR.decn rfl rfl ?_; dsimp only [List.set])
      | (refine WR.incn rfl rfl ?_; dsimp only [List.set])
      | (refine WR.go rfl rfl ?_; try dsimp only [List.set])
      | refine WR.aIk rfl (by assumption) rfl (by first | with_reducible rfl | with_reducible assumption) (by omega) (by with_reducible assumption) ?_
      | refine WR.aI rfl (by assumption) rfl (by first | with_reducible rfl | with_reducible assumption) (by omega) ?_
      | refine WR.sI rfl (by assumption) rfl (by first | with_reducible rfl | with_reducible assumption) (by omega) ?_
      | refine WR.pI rfl (by assumption) ?_
      | refine WR.rt rfl rfl rfl rfl ?_
      | refine WR.rz rfl rfl (by decide) ?_)
    exact ⟨rfl, rfl⟩
  · rename_i h
    rw [h]
    repeat' ((with_reducible fail_if_success show WR _ _ _ 9 _ _ _ _); (first
      | (with_reducible refine WR.lt (by omega) (by omega) (fun _ => ?_) (fun _ => ?_) <;> try (exfalso; omega))
      | (with_reducible refine WR.le (by omega) (by omega) (fun _ => ?_) (fun _ => ?_) <;> try (exfalso; omega))
      | (with_reducible refine WR.eq (by omega) (by omega) (fun _ => ?_) (fun _ => ?_) <;> try (exfalso; omega))
      | (with_reducible refine WR.ne (by omega) (by omega) (fun _ => ?_) (fun _ => ?_) <;> try (exfalso; omega))
      | with_reducible refine WR.lt0 (by omega) ?_
      | with_reducible refine WR.ge0 (by omega) ?_
      | (with_reducible refine WR.bz (fun _ => ?_) (fun _ => ?_) <;> try contradiction)
      | (with_reducible refine WR.bn (fun _ => ?_) (fun _ => ?_) <;> try contradiction)
      | (with_reducible refine WR.br (fun _ => ?_) (fun _ => ?_) <;> try contradiction)
      | refine WR.gIk rfl (by assumption) (by with_reducible assumption) ?_
      | refine WR.gI rfl (by assumption) ?_
      | refine WR.gR rfl (by assumption) (by assumption) ?_
      | refine WR.gN rfl (by assumption) (by assumption) ?_
      | refine WR.gL rfl (by assumption) ?_
      | refine WR.addn rfl (by with_reducible rfl) (by with_reducible rfl) ?_
      | refine WR.muln rfl (by with_reducible rfl) (by with_reducible rfl) ?_
      | refine WR.subn rfl (by with_reducible rfl) (by with_reducible rfl) (by omega) ?_
      | (refine WR.decn rfl rfl ?_; dsimp only [List.set])
      | (refine WR.incn rfl rfl ?_; dsimp only [List.set])
      | (refine WR.go rfl rfl ?_; try dsimp only [List.set])
      | refine WR.aIk rfl (by assumption) rfl (by first | with_reducible rfl | with_reducible assumption) (by omega) (by with_reducible assumption) ?_
      | refine WR.aI rfl (by assumption) rfl (by first | with_reducible rfl | with_reducible assumption) (by omega) ?_
      | refine WR.sI rfl (by assumption) rfl (by first | with_reducible rfl | with_reducible assumption) (by omega) ?_
      | refine WR.pI rfl (by assumption) ?_
      | refine WR.rt rfl rfl rfl rfl ?_
      | refine WR.rz rfl rfl (by decide) ?_))
    refine WR.C1i rfl p1 rfl (k_open d I hp0 (by omega)) ?_
    iterate 2 (first
      | (with_reducible refine WR.lt (by omega) (by omega) (fun _ => ?_) (fun _ => ?_) <;> try (exfalso; omega))
      | (with_reducible refine WR.le (by omega) (by omega) (fun _ => ?_) (fun _ => ?_) <;> try (exfalso; omega))
      | (with_reducible refine WR.eq (by omega) (by omega) (fun _ => ?_) (fun _ => ?_) <;> try (exfalso; omega))
      | (with_reducible refine WR.ne (by omega) (by omega) (fun _ => ?_) (fun _ => ?_) <;> try (exfalso; omega))
      | with_reducible refine WR.lt0 (by omega) ?_
      | with_reducible refine WR.ge0 (by omega) ?_
      | (with_reducible refine WR.bz (fun _ => ?_) (fun _ => ?_) <;> try contradiction)
      | (with_reducible refine WR.bn (fun _ => ?_) (fun _ => ?_) <;> try contradiction)
      | (with_reducible refine WR.br (fun _ => ?_) (fun _ => ?_) <;> try contradiction)
      | refine WR.gIk rfl (by assumption) (by with_reducible assumption) ?_
      | refine WR.gI rfl (by assumption) ?_
      | refine WR.gR rfl (by assumption) (by assumption) ?_
      | refine WR.gN rfl (by assumption) (by assumption) ?_
      | refine WR.gL rfl (by assumption) ?_
      | refine WR.addn rfl (by with_reducible rfl) (by with_reducible rfl) ?_
      | refine WR.muln rfl (by with_reducible rfl) (by with_reducible rfl) ?_
      | refine WR.subn rfl (by with_reducible rfl) (by with_reducible rfl) (by omega) ?_
      | (refine WR.decn rfl rfl ?_; dsimp only [List.set])
      | (refine WR.incn rfl rfl ?_; dsimp only [List.set])
      | (refine WR.go rfl rfl ?_; try dsimp only [List.set])
      | refine WR.aIk rfl (by assumption) rfl (by first | with_reducible rfl | with_reducible assumption) (by omega) (by with_reducible assumption) ?_
      | refine WR.aI rfl (by assumption) rfl (by first | with_reducible rfl | with_reducible assumption) (by omega) ?_
      | refine WR.sI rfl (by assumption) rfl (by first | with_reducible rfl | with_reducible assumption) (by omega) ?_
      | refine WR.pI rfl (by assumption) ?_
      | refine WR.rt rfl rfl rfl rfl ?_
      | refine WR.rz rfl rfl (by decide) ?_)
    · rename_i h3
      rw [h3]
      repeat' (first
      | (with_reducible refine WR.lt (by omega) (by omega) (fun _ => ?_) (fun _ => ?_) <;> try (exfalso; omega))
      | (with_reducible refine WR.le (by omega) (by omega) (fun _ => ?_) (fun _ => ?_) <;> try (exfalso; omega))
      | (with_reducible refine WR.eq (by omega) (by omega) (fun _ => ?_) (fun _ => ?_) <;> try (exfalso; omega))
      | (with_reducible refine WR.ne (by omega) (by omega) (fun _ => ?_) (fun _ => ?_) <;> try (exfalso; omega))
      | with_reducible refine WR.lt0 (by omega) ?_
      | with_reducible refine WR.ge0 (by omega) ?_
      | (with_reducible refine WR.bz (fun _ => ?_) (fun _ => ?_) <;> try contradiction)
      | (with_reducible refine WR.bn (fun _ => ?_) (fun _ => ?_) <;> try contradiction)
      | (with_reducible refine WR.br (fun _ => ?_) (fun _ => ?_) <;> try contradiction)
      | refine WR.gIk rfl (by assumption) (by with_reducible assumption) ?_
      | refine WR.gI rfl (by assumption) ?_
      | refine WR.gR rfl (by assumption) (by assumption) ?_
      | refine WR.gN rfl (by assumption) (by assumption) ?_
      | refine WR.gL rfl (by assumption) ?_
      | refine WR.addn rfl (by with_reducible rfl) (by with_reducible rfl) ?_
      | refine WR.muln rfl (by with_reducible rfl) (by with_reducible rfl) ?_
      | refine WR.subn rfl (by with_reducible rfl) (by with_reducible rfl) (by omega) ?_
      | (refine WR.decn rfl rfl ?_; dsimp only [List.set])
      | (refine WR.incn rfl rfl ?_; dsimp only [List.set])
      | (refine WR.go rfl rfl ?_; try dsimp only [List.set])
      | refine WR.aIk rfl (by assumption) rfl (by first | with_reducible rfl | with_reducible assumption) (by omega) (by with_reducible assumption) ?_
      | refine WR.aI rfl (by assumption) rfl (by first | with_reducible rfl | with_reducible assumption) (by omega) ?_
      | refine WR.sI rfl (by assumption) rfl (by first | with_reducible rfl | with_reducible assumption) (by omega) ?_
      | refine WR.pI rfl (by assumption) ?_
      | refine WR.rt rfl rfl rfl rfl ?_
      | refine WR.rz rfl rfl (by decide) ?_)
      exact ⟨rfl, rfl⟩
    · rename_i h3
      rw [h3]
      have hsl : s ≤ 24 := by
        simp only [c_opn, Bool.and_eq_true] at h3
        exact (c_sl_t.mp h3.1.1).2
      repeat' ((with_reducible fail_if_success show WR _ _ _ 17 _ _ _ _); (first
      | (with_reducible refine WR.lt (by omega) (by omega) (fun _ => ?_) (fun _ => ?_) <;> try (exfalso; omega))
      | (with_reducible refine WR.le (by omega) (by omega) (fun _ => ?_) (fun _ => ?_) <;> try (exfalso; omega))
      | (with_reducible refine WR.eq (by omega) (by omega) (fun _ => ?_) (fun _ => ?_) <;> try (exfalso; omega))
      | (with_reducible refine WR.ne (by omega) (by omega) (fun _ => ?_) (fun _ => ?_) <;> try (exfalso; omega))
      | with_reducible refine WR.lt0 (by omega) ?_
      | with_reducible refine WR.ge0 (by omega) ?_
      | (with_reducible refine WR.bz (fun _ => ?_) (fun _ => ?_) <;> try contradiction)
      | (with_reducible refine WR.bn (fun _ => ?_) (fun _ => ?_) <;> try contradiction)
      | (with_reducible refine WR.br (fun _ => ?_) (fun _ => ?_) <;> try contradiction)
      | refine WR.gIk rfl (by assumption) (by with_reducible assumption) ?_
      | refine WR.gI rfl (by assumption) ?_
      | refine WR.gR rfl (by assumption) (by assumption) ?_
      | refine WR.gN rfl (by assumption) (by assumption) ?_
      | refine WR.gL rfl (by assumption) ?_
      | refine WR.addn rfl (by with_reducible rfl) (by with_reducible rfl) ?_
      | refine WR.muln rfl (by with_reducible rfl) (by with_reducible rfl) ?_
      | refine WR.subn rfl (by with_reducible rfl) (by with_reducible rfl) (by omega) ?_
      | (refine WR.decn rfl rfl ?_; dsimp only [List.set])
      | (refine WR.incn rfl rfl ?_; dsimp only [List.set])
      | (refine WR.go rfl rfl ?_; try dsimp only [List.set])
      | refine WR.aIk rfl (by assumption) rfl (by first | with_reducible rfl | with_reducible assumption) (by omega) (by with_reducible assumption) ?_
      | refine WR.aI rfl (by assumption) rfl (by first | with_reducible rfl | with_reducible assumption) (by omega) ?_
      | refine WR.sI rfl (by assumption) rfl (by first | with_reducible rfl | with_reducible assumption) (by omega) ?_
      | refine WR.pI rfl (by assumption) ?_
      | refine WR.rt rfl rfl rfl rfl ?_
      | refine WR.rz rfl rfl (by decide) ?_))
      refine WR.C1i rfl p1 rfl (k_supp d I hp0 hq ho h1 h2) ?_
      iterate 2 (first
      | (with_reducible refine WR.lt (by omega) (by omega) (fun _ => ?_) (fun _ => ?_) <;> try (exfalso; omega))
      | (with_reducible refine WR.le (by omega) (by omega) (fun _ => ?_) (fun _ => ?_) <;> try (exfalso; omega))
      | (with_reducible refine WR.eq (by omega) (by omega) (fun _ => ?_) (fun _ => ?_) <;> try (exfalso; omega))
      | (with_reducible refine WR.ne (by omega) (by omega) (fun _ => ?_) (fun _ => ?_) <;> try (exfalso; omega))
      | with_reducible refine WR.lt0 (by omega) ?_
      | with_reducible refine WR.ge0 (by omega) ?_
      | (with_reducible refine WR.bz (fun _ => ?_) (fun _ => ?_) <;> try contradiction)
      | (with_reducible refine WR.bn (fun _ => ?_) (fun _ => ?_) <;> try contradiction)
      | (with_reducible refine WR.br (fun _ => ?_) (fun _ => ?_) <;> try contradiction)
      | refine WR.gIk rfl (by assumption) (by with_reducible assumption) ?_
      | refine WR.gI rfl (by assumption) ?_
      | refine WR.gR rfl (by assumption) (by assumption) ?_
      | refine WR.gN rfl (by assumption) (by assumption) ?_
      | refine WR.gL rfl (by assumption) ?_
      | refine WR.addn rfl (by with_reducible rfl) (by with_reducible rfl) ?_
      | refine WR.muln rfl (by with_reducible rfl) (by with_reducible rfl) ?_
      | refine WR.subn rfl (by with_reducible rfl) (by with_reducible rfl) (by omega) ?_
      | (refine WR.decn rfl rfl ?_; dsimp only [List.set])
      | (refine WR.incn rfl rfl ?_; dsimp only [List.set])
      | (refine WR.go rfl rfl ?_; try dsimp only [List.set])
      | refine WR.aIk rfl (by assumption) rfl (by first | with_reducible rfl | with_reducible assumption) (by omega) (by with_reducible assumption) ?_
      | refine WR.aI rfl (by assumption) rfl (by first | with_reducible rfl | with_reducible assumption) (by omega) ?_
      | refine WR.sI rfl (by assumption) rfl (by first | with_reducible rfl | with_reducible assumption) (by omega) ?_
      | refine WR.pI rfl (by assumption) ?_
      | refine WR.rt rfl rfl rfl rfl ?_
      | refine WR.rz rfl rfl (by decide) ?_)
      · rename_i h4
        rw [h4, if_pos (show (true && true && true) = true from rfl)]
        repeat' ((with_reducible fail_if_success show WR _ _ _ 33 _ _ _ _); (first
      | (with_reducible refine WR.lt (by omega) (by omega) (fun _ => ?_) (fun _ => ?_) <;> try (exfalso; omega))
      | (with_reducible refine WR.le (by omega) (by omega) (fun _ => ?_) (fun _ => ?_) <;> try (exfalso; omega))
      | (with_reducible refine WR.eq (by omega) (by omega) (fun _ => ?_) (fun _ => ?_) <;> try (exfalso; omega))
      | (with_reducible refine WR.ne (by omega) (by omega) (fun _ => ?_) (fun _ => ?_) <;> try (exfalso; omega))
      | with_reducible refine WR.lt0 (by omega) ?_
      | with_reducible refine WR.ge0 (by omega) ?_
      | (with_reducible refine WR.bz (fun _ => ?_) (fun _ => ?_) <;> try contradiction)
      | (with_reducible refine WR.bn (fun _ => ?_) (fun _ => ?_) <;> try contradiction)
      | (with_reducible refine WR.br (fun _ => ?_) (fun _ => ?_) <;> try contradiction)
      | refine WR.gIk rfl (by assumption) (by with_reducible assumption) ?_
      | refine WR.gI rfl (by assumption) ?_
      | refine WR.gR rfl (by assumption) (by assumption) ?_
      | refine WR.gN rfl (by assumption) (by assumption) ?_
      | refine WR.gL rfl (by assumption) ?_
      | refine WR.addn rfl (by with_reducible rfl) (by with_reducible rfl) ?_
      | refine WR.muln rfl (by with_reducible rfl) (by with_reducible rfl) ?_
      | refine WR.subn rfl (by with_reducible rfl) (by with_reducible rfl) (by omega) ?_
      | (refine WR.decn rfl rfl ?_; dsimp only [List.set])
      | (refine WR.incn rfl rfl ?_; dsimp only [List.set])
      | (refine WR.go rfl rfl ?_; try dsimp only [List.set])
      | refine WR.aIk rfl (by assumption) rfl (by first | with_reducible rfl | with_reducible assumption) (by omega) (by with_reducible assumption) ?_
      | refine WR.aI rfl (by assumption) rfl (by first | with_reducible rfl | with_reducible assumption) (by omega) ?_
      | refine WR.sI rfl (by assumption) rfl (by first | with_reducible rfl | with_reducible assumption) (by omega) ?_
      | refine WR.pI rfl (by assumption) ?_
      | refine WR.rt rfl rfl rfl rfl ?_
      | refine WR.rz rfl rfl (by decide) ?_))
        refine WR.C1i rfl c5.1 rfl (k_vhas (d + 1) I (by omega) c5) ?_
        iterate 2 (first
      | (with_reducible refine WR.lt (by omega) (by omega) (fun _ => ?_) (fun _ => ?_) <;> try (exfalso; omega))
      | (with_reducible refine WR.le (by omega) (by omega) (fun _ => ?_) (fun _ => ?_) <;> try (exfalso; omega))
      | (with_reducible refine WR.eq (by omega) (by omega) (fun _ => ?_) (fun _ => ?_) <;> try (exfalso; omega))
      | (with_reducible refine WR.ne (by omega) (by omega) (fun _ => ?_) (fun _ => ?_) <;> try (exfalso; omega))
      | with_reducible refine WR.lt0 (by omega) ?_
      | with_reducible refine WR.ge0 (by omega) ?_
      | (with_reducible refine WR.bz (fun _ => ?_) (fun _ => ?_) <;> try contradiction)
      | (with_reducible refine WR.bn (fun _ => ?_) (fun _ => ?_) <;> try contradiction)
      | (with_reducible refine WR.br (fun _ => ?_) (fun _ => ?_) <;> try contradiction)
      | refine WR.gIk rfl (by assumption) (by with_reducible assumption) ?_
      | refine WR.gI rfl (by assumption) ?_
      | refine WR.gR rfl (by assumption) (by assumption) ?_
      | refine WR.gN rfl (by assumption) (by assumption) ?_
      | refine WR.gL rfl (by assumption) ?_
      | refine WR.addn rfl (by with_reducible rfl) (by with_reducible rfl) ?_
      | refine WR.muln rfl (by with_reducible rfl) (by with_reducible rfl) ?_
      | refine WR.subn rfl (by with_reducible rfl) (by with_reducible rfl) (by omega) ?_
      | (refine WR.decn rfl rfl ?_; dsimp only [List.set])
      | (refine WR.incn rfl rfl ?_; dsimp only [List.set])
      | (refine WR.go rfl rfl ?_; try dsimp only [List.set])
      | refine WR.aIk rfl (by assumption) rfl (by first | with_reducible rfl | with_reducible assumption) (by omega) (by with_reducible assumption) ?_
      | refine WR.aI rfl (by assumption) rfl (by first | with_reducible rfl | with_reducible assumption) (by omega) ?_
      | refine WR.sI rfl (by assumption) rfl (by first | with_reducible rfl | with_reducible assumption) (by omega) ?_
      | refine WR.pI rfl (by assumption) ?_
      | refine WR.rt rfl rfl rfl rfl ?_
      | refine WR.rz rfl rfl (by decide) ?_)
        · rename_i h5
          rw [if_neg (by simp [h5])]
          repeat' ((with_reducible fail_if_success show WR _ _ _ 56 _ _ _ _); (first
      | (with_reducible refine WR.lt (by omega) (by omega) (fun _ => ?_) (fun _ => ?_) <;> try (exfalso; omega))
      | (with_reducible refine WR.le (by omega) (by omega) (fun _ => ?_) (fun _ => ?_) <;> try (exfalso; omega))
      | (with_reducible refine WR.eq (by omega) (by omega) (fun _ => ?_) (fun _ => ?_) <;> try (exfalso; omega))
      | (with_reducible refine WR.ne (by omega) (by omega) (fun _ => ?_) (fun _ => ?_) <;> try (exfalso; omega))
      | with_reducible refine WR.lt0 (by omega) ?_
      | with_reducible refine WR.ge0 (by omega) ?_
      | (with_reducible refine WR.bz (fun _ => ?_) (fun _ => ?_) <;> try contradiction)
      | (with_reducible refine WR.bn (fun _ => ?_) (fun _ => ?_) <;> try contradiction)
      | (with_reducible refine WR.br (fun _ => ?_) (fun _ => ?_) <;> try contradiction)
      | refine WR.gIk rfl (by assumption) (by with_reducible assumption) ?_
      | refine WR.gI rfl (by assumption) ?_
      | refine WR.gR rfl (by assumption) (by assumption) ?_
      | refine WR.gN rfl (by assumption) (by assumption) ?_
      | refine WR.gL rfl (by assumption) ?_
      | refine WR.addn rfl (by with_reducible rfl) (by with_reducible rfl) ?_
      | refine WR.muln rfl (by with_reducible rfl) (by with_reducible rfl) ?_
      | refine WR.subn rfl (by with_reducible rfl) (by with_reducible rfl) (by omega) ?_
      | (refine WR.decn rfl rfl ?_; dsimp only [List.set])
      | (refine WR.incn rfl rfl ?_; dsimp only [List.set])
      | (refine WR.go rfl rfl ?_; try dsimp only [List.set])
      | refine WR.aIk rfl (by assumption) rfl (by first | with_reducible rfl | with_reducible assumption) (by omega) (by with_reducible assumption) ?_
      | refine WR.aI rfl (by assumption) rfl (by first | with_reducible rfl | with_reducible assumption) (by omega) ?_
      | refine WR.sI rfl (by assumption) rfl (by first | with_reducible rfl | with_reducible assumption) (by omega) ?_
      | refine WR.pI rfl (by assumption) ?_
      | refine WR.rt rfl rfl rfl rfl ?_
      | refine WR.rz rfl rfl (by decide) ?_))
          refine WR.C1i rfl p7.1 rfl (k_cabv d I hsl p7) ?_
          iterate 2 (first
      | (with_reducible refine WR.lt (by omega) (by omega) (fun _ => ?_) (fun _ => ?_) <;> try (exfalso; omega))
      | (with_reducible refine WR.le (by omega) (by omega) (fun _ => ?_) (fun _ => ?_) <;> try (exfalso; omega))
      | (with_reducible refine WR.eq (by omega) (by omega) (fun _ => ?_) (fun _ => ?_) <;> try (exfalso; omega))
      | (with_reducible refine WR.ne (by omega) (by omega) (fun _ => ?_) (fun _ => ?_) <;> try (exfalso; omega))
      | with_reducible refine WR.lt0 (by omega) ?_
      | with_reducible refine WR.ge0 (by omega) ?_
      | (with_reducible refine WR.bz (fun _ => ?_) (fun _ => ?_) <;> try contradiction)
      | (with_reducible refine WR.bn (fun _ => ?_) (fun _ => ?_) <;> try contradiction)
      | (with_reducible refine WR.br (fun _ => ?_) (fun _ => ?_) <;> try contradiction)
      | refine WR.gIk rfl (by assumption) (by with_reducible assumption) ?_
      | refine WR.gI rfl (by assumption) ?_
      | refine WR.gR rfl (by assumption) (by assumption) ?_
      | refine WR.gN rfl (by assumption) (by assumption) ?_
      | refine WR.gL rfl (by assumption) ?_
      | refine WR.addn rfl (by with_reducible rfl) (by with_reducible rfl) ?_
      | refine WR.muln rfl (by with_reducible rfl) (by with_reducible rfl) ?_
      | refine WR.subn rfl (by with_reducible rfl) (by with_reducible rfl) (by omega) ?_
      | (refine WR.decn rfl rfl ?_; dsimp only [List.set])
      | (refine WR.incn rfl rfl ?_; dsimp only [List.set])
      | (refine WR.go rfl rfl ?_; try dsimp only [List.set])
      | refine WR.aIk rfl (by assumption) rfl (by first | with_reducible rfl | with_reducible assumption) (by omega) (by with_reducible assumption) ?_
      | refine WR.aI rfl (by assumption) rfl (by first | with_reducible rfl | with_reducible assumption) (by omega) ?_
      | refine WR.sI rfl (by assumption) rfl (by first | with_reducible rfl | with_reducible assumption) (by omega) ?_
      | refine WR.pI rfl (by assumption) ?_
      | refine WR.rt rfl rfl rfl rfl ?_
      | refine WR.rz rfl rfl (by decide) ?_)
          · rename_i h6
            rw [h6, Bool.true_or, if_pos rfl]
            repeat' (first
      | (with_reducible refine WR.lt (by omega) (by omega) (fun _ => ?_) (fun _ => ?_) <;> try (exfalso; omega))
      | (with_reducible refine WR.le (by omega) (by omega) (fun _ => ?_) (fun _ => ?_) <;> try (exfalso; omega))
      | (with_reducible refine WR.eq (by omega) (by omega) (fun _ => ?_) (fun _ => ?_) <;> try (exfalso; omega))
      | (with_reducible refine WR.ne (by omega) (by omega) (fun _ => ?_) (fun _ => ?_) <;> try (exfalso; omega))
      | with_reducible refine WR.lt0 (by omega) ?_
      | with_reducible refine WR.ge0 (by omega) ?_
      | (with_reducible refine WR.bz (fun _ => ?_) (fun _ => ?_) <;> try contradiction)
      | (with_reducible refine WR.bn (fun _ => ?_) (fun _ => ?_) <;> try contradiction)
      | (with_reducible refine WR.br (fun _ => ?_) (fun _ => ?_) <;> try contradiction)
      | refine WR.gIk rfl (by assumption) (by with_reducible assumption) ?_
      | refine WR.gI rfl (by assumption) ?_
      | refine WR.gR rfl (by assumption) (by assumption) ?_
      | refine WR.gN rfl (by assumption) (by assumption) ?_
      | refine WR.gL rfl (by assumption) ?_
      | refine WR.addn rfl (by with_reducible rfl) (by with_reducible rfl) ?_
      | refine WR.muln rfl (by with_reducible rfl) (by with_reducible rfl) ?_
      | refine WR.subn rfl (by with_reducible rfl) (by with_reducible rfl) (by omega) ?_
      | (refine WR.decn rfl rfl ?_; dsimp only [List.set])
      | (refine WR.incn rfl rfl ?_; dsimp only [List.set])
      | (refine WR.go rfl rfl ?_; try dsimp only [List.set])
      | refine WR.aIk rfl (by assumption) rfl (by first | with_reducible rfl | with_reducible assumption) (by omega) (by with_reducible assumption) ?_
      | refine WR.aI rfl (by assumption) rfl (by first | with_reducible rfl | with_reducible assumption) (by omega) ?_
      | refine WR.sI rfl (by assumption) rfl (by first | with_reducible rfl | with_reducible assumption) (by omega) ?_
      | refine WR.pI rfl (by assumption) ?_
      | refine WR.rt rfl rfl rfl rfl ?_
      | refine WR.rz rfl rfl (by decide) ?_)
            exact ⟨rfl, rfl⟩
          · rename_i h6
            rw [h6, Bool.false_or]
            repeat' ((with_reducible fail_if_success show WR _ _ _ 70 _ _ _ _); (first
      | (with_reducible refine WR.lt (by omega) (by omega) (fun _ => ?_) (fun _ => ?_) <;> try (exfalso; omega))
      | (with_reducible refine WR.le (by omega) (by omega) (fun _ => ?_) (fun _ => ?_) <;> try (exfalso; omega))
      | (with_reducible refine WR.eq (by omega) (by omega) (fun _ => ?_) (fun _ => ?_) <;> try (exfalso; omega))
      | (with_reducible refine WR.ne (by omega) (by omega) (fun _ => ?_) (fun _ => ?_) <;> try (exfalso; omega))
      | with_reducible refine WR.lt0 (by omega) ?_
      | with_reducible refine WR.ge0 (by omega) ?_
      | (with_reducible refine WR.bz (fun _ => ?_) (fun _ => ?_) <;> try contradiction)
      | (with_reducible refine WR.bn (fun _ => ?_) (fun _ => ?_) <;> try contradiction)
      | (with_reducible refine WR.br (fun _ => ?_) (fun _ => ?_) <;> try contradiction)
      | refine WR.gIk rfl (by assumption) (by with_reducible assumption) ?_
      | refine WR.gI rfl (by assumption) ?_
      | refine WR.gR rfl (by assumption) (by assumption) ?_
      | refine WR.gN rfl (by assumption) (by assumption) ?_
      | refine WR.gL rfl (by assumption) ?_
      | refine WR.addn rfl (by with_reducible rfl) (by with_reducible rfl) ?_
      | refine WR.muln rfl (by with_reducible rfl) (by with_reducible rfl) ?_
      | refine WR.subn rfl (by with_reducible rfl) (by with_reducible rfl) (by omega) ?_
      | (refine WR.decn rfl rfl ?_; dsimp only [List.set])
      | (refine WR.incn rfl rfl ?_; dsimp only [List.set])
      | (refine WR.go rfl rfl ?_; try dsimp only [List.set])
      | refine WR.aIk rfl (by assumption) rfl (by first | with_reducible rfl | with_reducible assumption) (by omega) (by with_reducible assumption) ?_
      | refine WR.aI rfl (by assumption) rfl (by first | with_reducible rfl | with_reducible assumption) (by omega) ?_
      | refine WR.sI rfl (by assumption) rfl (by first | with_reducible rfl | with_reducible assumption) (by omega) ?_
      | refine WR.pI rfl (by assumption) ?_
      | refine WR.rt rfl rfl rfl rfl ?_
      | refine WR.rz rfl rfl (by decide) ?_))
            refine WR.C1i rfl c5.1 rfl (k_vabv d I hsl c5) ?_
            iterate 2 (first
      | (with_reducible refine WR.lt (by omega) (by omega) (fun _ => ?_) (fun _ => ?_) <;> try (exfalso; omega))
      | (with_reducible refine WR.le (by omega) (by omega) (fun _ => ?_) (fun _ => ?_) <;> try (exfalso; omega))
      | (with_reducible refine WR.eq (by omega) (by omega) (fun _ => ?_) (fun _ => ?_) <;> try (exfalso; omega))
      | (with_reducible refine WR.ne (by omega) (by omega) (fun _ => ?_) (fun _ => ?_) <;> try (exfalso; omega))
      | with_reducible refine WR.lt0 (by omega) ?_
      | with_reducible refine WR.ge0 (by omega) ?_
      | (with_reducible refine WR.bz (fun _ => ?_) (fun _ => ?_) <;> try contradiction)
      | (with_reducible refine WR.bn (fun _ => ?_) (fun _ => ?_) <;> try contradiction)
      | (with_reducible refine WR.br (fun _ => ?_) (fun _ => ?_) <;> try contradiction)
      | refine WR.gIk rfl (by assumption) (by with_reducible assumption) ?_
      | refine WR.gI rfl (by assumption) ?_
      | refine WR.gR rfl (by assumption) (by assumption) ?_
      | refine WR.gN rfl (by assumption) (by assumption) ?_
      | refine WR.gL rfl (by assumption) ?_
      | refine WR.addn rfl (by with_reducible rfl) (by with_reducible rfl) ?_
      | refine WR.muln rfl (by with_reducible rfl) (by with_reducible rfl) ?_
      | refine WR.subn rfl (by with_reducible rfl) (by with_reducible rfl) (by omega) ?_
      | (refine WR.decn rfl rfl ?_; dsimp only [List.set])
      | (refine WR.incn rfl rfl ?_; dsimp only [List.set])
      | (refine WR.go rfl rfl ?_; try dsimp only [List.set])
      | refine WR.aIk rfl (by assumption) rfl (by first | with_reducible rfl | with_reducible assumption) (by omega) (by with_reducible assumption) ?_
      | refine WR.aI rfl (by assumption) rfl (by first | with_reducible rfl | with_reducible assumption) (by omega) ?_
      | refine WR.sI rfl (by assumption) rfl (by first | with_reducible rfl | with_reducible assumption) (by omega) ?_
      | refine WR.pI rfl (by assumption) ?_
      | refine WR.rt rfl rfl rfl rfl ?_
      | refine WR.rz rfl rfl (by decide) ?_)
            · rename_i h7
              rw [if_neg (by rw [h7]; decide)]
              repeat' (first
      | (with_reducible refine WR.lt (by omega) (by omega) (fun _ => ?_) (fun _ => ?_) <;> try (exfalso; omega))
      | (with_reducible refine WR.le (by omega) (by omega) (fun _ => ?_) (fun _ => ?_) <;> try (exfalso; omega))
      | (with_reducible refine WR.eq (by omega) (by omega) (fun _ => ?_) (fun _ => ?_) <;> try (exfalso; omega))
      | (with_reducible refine WR.ne (by omega) (by omega) (fun _ => ?_) (fun _ => ?_) <;> try (exfalso; omega))
      | with_reducible refine WR.lt0 (by omega) ?_
      | with_reducible refine WR.ge0 (by omega) ?_
      | (with_reducible refine WR.bz (fun _ => ?_) (fun _ => ?_) <;> try contradiction)
      | (with_reducible refine WR.bn (fun _ => ?_) (fun _ => ?_) <;> try contradiction)
      | (with_reducible refine WR.br (fun _ => ?_) (fun _ => ?_) <;> try contradiction)
      | refine WR.gIk rfl (by assumption) (by with_reducible assumption) ?_
      | refine WR.gI rfl (by assumption) ?_
      | refine WR.gR rfl (by assumption) (by assumption) ?_
      | refine WR.gN rfl (by assumption) (by assumption) ?_
      | refine WR.gL rfl (by assumption) ?_
      | refine WR.addn rfl (by with_reducible rfl) (by with_reducible rfl) ?_
      | refine WR.muln rfl (by with_reducible rfl) (by with_reducible rfl) ?_
      | refine WR.subn rfl (by with_reducible rfl) (by with_reducible rfl) (by omega) ?_
      | (refine WR.decn rfl rfl ?_; dsimp only [List.set])
      | (refine WR.incn rfl rfl ?_; dsimp only [List.set])
      | (refine WR.go rfl rfl ?_; try dsimp only [List.set])
      | refine WR.aIk rfl (by assumption) rfl (by first | with_reducible rfl | with_reducible assumption) (by omega) (by with_reducible assumption) ?_
      | refine WR.aI rfl (by assumption) rfl (by first | with_reducible rfl | with_reducible assumption) (by omega) ?_
      | refine WR.sI rfl (by assumption) rfl (by first | with_reducible rfl | with_reducible assumption) (by omega) ?_
      | refine WR.pI rfl (by assumption) ?_
      | refine WR.rt rfl rfl rfl rfl ?_
      | refine WR.rz rfl rfl (by decide) ?_)
              exact ⟨rfl, rfl⟩
            · rename_i h7
              rw [if_pos h7]
              repeat' (first
      | (with_reducible refine WR.lt (by omega) (by omega) (fun _ => ?_) (fun _ => ?_) <;> try (exfalso; omega))
      | (with_reducible refine WR.le (by omega) (by omega) (fun _ => ?_) (fun _ => ?_) <;> try (exfalso; omega))
      | (with_reducible refine WR.eq (by omega) (by omega) (fun _ => ?_) (fun _ => ?_) <;> try (exfalso; omega))
      | (with_reducible refine WR.ne (by omega) (by omega) (fun _ => ?_) (fun _ => ?_) <;> try (exfalso; omega))
      | with_reducible refine WR.lt0 (by omega) ?_
      | with_reducible refine WR.ge0 (by omega) ?_
      | (with_reducible refine WR.bz (fun _ => ?_) (fun _ => ?_) <;> try contradiction)
      | (with_reducible refine WR.bn (fun _ => ?_) (fun _ => ?_) <;> try contradiction)
      | (with_reducible refine WR.br (fun _ => ?_) (fun _ => ?_) <;> try contradiction)
      | refine WR.gIk rfl (by assumption) (by with_reducible assumption) ?_
      | refine WR.gI rfl (by assumption) ?_
      | refine WR.gR rfl (by assumption) (by assumption) ?_
      | refine WR.gN rfl (by assumption) (by assumption) ?_
      | refine WR.gL rfl (by assumption) ?_
      | refine WR.addn rfl (by with_reducible rfl) (by with_reducible rfl) ?_
      | refine WR.muln rfl (by with_reducible rfl) (by with_reducible rfl) ?_
      | refine WR.subn rfl (by with_reducible rfl) (by with_reducible rfl) (by omega) ?_
      | (refine WR.decn rfl rfl ?_; dsimp only [List.set])
      | (refine WR.incn rfl rfl ?_; dsimp only [List.set])
      | (refine WR.go rfl rfl ?_; try dsimp only [List.set])
      | refine WR.aIk rfl (by assumption) rfl (by first | with_reducible rfl | with_reducible assumption) (by omega) (by with_reducible assumption) ?_
      | refine WR.aI rfl (by assumption) rfl (by first | with_reducible rfl | with_reducible assumption) (by omega) ?_
      | refine WR.sI rfl (by assumption) rfl (by first | with_reducible rfl | with_reducible assumption) (by omega) ?_
      | refine WR.pI rfl (by assumption) ?_
      | refine WR.rt rfl rfl rfl rfl ?_
      | refine WR.rz rfl rfl (by decide) ?_)
              exact ⟨rfl, rfl⟩
        · rename_i h5
          rw [if_pos h5]
          repeat' ((with_reducible fail_if_success show WR _ _ _ 47 _ _ _ _); (first
      | (with_reducible refine WR.lt (by omega) (by omega) (fun _ => ?_) (fun _ => ?_) <;> try (exfalso; omega))
      | (with_reducible refine WR.le (by omega) (by omega) (fun _ => ?_) (fun _ => ?_) <;> try (exfalso; omega))
      | (with_reducible refine WR.eq (by omega) (by omega) (fun _ => ?_) (fun _ => ?_) <;> try (exfalso; omega))
      | (with_reducible refine WR.ne (by omega) (by omega) (fun _ => ?_) (fun _ => ?_) <;> try (exfalso; omega))
      | with_reducible refine WR.lt0 (by omega) ?_
      | with_reducible refine WR.ge0 (by omega) ?_
      | (with_reducible refine WR.bz (fun _ => ?_) (fun _ => ?_) <;> try contradiction)
      | (with_reducible refine WR.bn (fun _ => ?_) (fun _ => ?_) <;> try contradiction)
      | (with_reducible refine WR.br (fun _ => ?_) (fun _ => ?_) <;> try contradiction)
      | refine WR.gIk rfl (by assumption) (by with_reducible assumption) ?_
      | refine WR.gI rfl (by assumption) ?_
      | refine WR.gR rfl (by assumption) (by assumption) ?_
      | refine WR.gN rfl (by assumption) (by assumption) ?_
      | refine WR.gL rfl (by assumption) ?_
      | refine WR.addn rfl (by with_reducible rfl) (by with_reducible rfl) ?_
      | refine WR.muln rfl (by with_reducible rfl) (by with_reducible rfl) ?_
      | refine WR.subn rfl (by with_reducible rfl) (by with_reducible rfl) (by omega) ?_
      | (refine WR.decn rfl rfl ?_; dsimp only [List.set])
      | (refine WR.incn rfl rfl ?_; dsimp only [List.set])
      | (refine WR.go rfl rfl ?_; try dsimp only [List.set])
      | refine WR.aIk rfl (by assumption) rfl (by first | with_reducible rfl | with_reducible assumption) (by omega) (by with_reducible assumption) ?_
      | refine WR.aI rfl (by assumption) rfl (by first | with_reducible rfl | with_reducible assumption) (by omega) ?_
      | refine WR.sI rfl (by assumption) rfl (by first | with_reducible rfl | with_reducible assumption) (by omega) ?_
      | refine WR.pI rfl (by assumption) ?_
      | refine WR.rt rfl rfl rfl rfl ?_
      | refine WR.rz rfl rfl (by decide) ?_))
          refine WR.C1i rfl c5.1 rfl (k_vcommand d I (by omega) c5) ?_
          repeat' (first
      | (with_reducible refine WR.lt (by omega) (by omega) (fun _ => ?_) (fun _ => ?_) <;> try (exfalso; omega))
      | (with_reducible refine WR.le (by omega) (by omega) (fun _ => ?_) (fun _ => ?_) <;> try (exfalso; omega))
      | (with_reducible refine WR.eq (by omega) (by omega) (fun _ => ?_) (fun _ => ?_) <;> try (exfalso; omega))
      | (with_reducible refine WR.ne (by omega) (by omega) (fun _ => ?_) (fun _ => ?_) <;> try (exfalso; omega))
      | with_reducible refine WR.lt0 (by omega) ?_
      | with_reducible refine WR.ge0 (by omega) ?_
      | (with_reducible refine WR.bz (fun _ => ?_) (fun _ => ?_) <;> try contradiction)
      | (with_reducible refine WR.bn (fun _ => ?_) (fun _ => ?_) <;> try contradiction)
      | (with_reducible refine WR.br (fun _ => ?_) (fun _ => ?_) <;> try contradiction)
      | refine WR.gIk rfl (by assumption) (by with_reducible assumption) ?_
      | refine WR.gI rfl (by assumption) ?_
      | refine WR.gR rfl (by assumption) (by assumption) ?_
      | refine WR.gN rfl (by assumption) (by assumption) ?_
      | refine WR.gL rfl (by assumption) ?_
      | refine WR.addn rfl (by with_reducible rfl) (by with_reducible rfl) ?_
      | refine WR.muln rfl (by with_reducible rfl) (by with_reducible rfl) ?_
      | refine WR.subn rfl (by with_reducible rfl) (by with_reducible rfl) (by omega) ?_
      | (refine WR.decn rfl rfl ?_; dsimp only [List.set])
      | (refine WR.incn rfl rfl ?_; dsimp only [List.set])
      | (refine WR.go rfl rfl ?_; try dsimp only [List.set])
      | refine WR.aIk rfl (by assumption) rfl (by first | with_reducible rfl | with_reducible assumption) (by omega) (by with_reducible assumption) ?_
      | refine WR.aI rfl (by assumption) rfl (by first | with_reducible rfl | with_reducible assumption) (by omega) ?_
      | refine WR.sI rfl (by assumption) rfl (by first | with_reducible rfl | with_reducible assumption) (by omega) ?_
      | refine WR.pI rfl (by assumption) ?_
      | refine WR.rt rfl rfl rfl rfl ?_
      | refine WR.rz rfl rfl (by decide) ?_)
          exact ⟨rfl, rfl⟩
      · rename_i h4
        rw [h4]
        repeat' (first
      | (with_reducible refine WR.lt (by omega) (by omega) (fun _ => ?_) (fun _ => ?_) <;> try (exfalso; omega))
      | (with_reducible refine WR.le (by omega) (by omega) (fun _ => ?_) (fun _ => ?_) <;> try (exfalso; omega))
      | (with_reducible refine WR.eq (by omega) (by omega) (fun _ => ?_) (fun _ => ?_) <;> try (exfalso; omega))
      | (with_reducible refine WR.ne (by omega) (by omega) (fun _ => ?_) (fun _ => ?_) <;> try (exfalso; omega))
      | with_reducible refine WR.lt0 (by omega) ?_
      | with_reducible refine WR.ge0 (by omega) ?_
      | (with_reducible refine WR.bz (fun _ => ?_) (fun _ => ?_) <;> try contradiction)
      | (with_reducible refine WR.bn (fun _ => ?_) (fun _ => ?_) <;> try contradiction)
      | (with_reducible refine WR.br (fun _ => ?_) (fun _ => ?_) <;> try contradiction)
      | refine WR.gIk rfl (by assumption) (by with_reducible assumption) ?_
      | refine WR.gI rfl (by assumption) ?_
      | refine WR.gR rfl (by assumption) (by assumption) ?_
      | refine WR.gN rfl (by assumption) (by assumption) ?_
      | refine WR.gL rfl (by assumption) ?_
      | refine WR.addn rfl (by with_reducible rfl) (by with_reducible rfl) ?_
      | refine WR.muln rfl (by with_reducible rfl) (by with_reducible rfl) ?_
      | refine WR.subn rfl (by with_reducible rfl) (by with_reducible rfl) (by omega) ?_
      | (refine WR.decn rfl rfl ?_; dsimp only [List.set])
      | (refine WR.incn rfl rfl ?_; dsimp only [List.set])
      | (refine WR.go rfl rfl ?_; try dsimp only [List.set])
      | refine WR.aIk rfl (by assumption) rfl (by first | with_reducible rfl | with_reducible assumption) (by omega) (by with_reducible assumption) ?_
      | refine WR.aI rfl (by assumption) rfl (by first | with_reducible rfl | with_reducible assumption) (by omega) ?_
      | refine WR.sI rfl (by assumption) rfl (by first | with_reducible rfl | with_reducible assumption) (by omega) ?_
      | refine WR.pI rfl (by assumption) ?_
      | refine WR.rt rfl rfl rfl rfl ?_
      | refine WR.rz rfl rfl (by decide) ?_)
        exact ⟨rfl, rfl⟩
set_option maxHeartbeats 1000000 in
theorem k_leads (d : Nat) (I : xI) {p q f : Nat} (hp : rpK Z p) (hq : Z.2.2 p 7 = some q) (ho : stO Z I q f) : ER Z (d + 4) 52 I [.ref p] (fun I' v => I' = I ∧ v = some (.int (bI (c_cmpg I p && c_sup I p q f (f + 1))))) := by
  have hp0 := hp
  obtain ⟨p1, p2, p3, p4, p5, p6, p7, p8, p9, _⟩ := hp
  have q1 := ho.1.1
  have q2 := ho.2.1
  have q3 := ho.2.2.1
  refine ER.of (ls := [some (.ref p)]) rfl rfl ?_
  repeat' ((with_reducible fail_if_success show WR _ _ _ 1 _ _ _ _); (first
      | (with_reducible refine WR.lt (by omega) (by omega) (fun _ => ?_) (fun _ => ?_) <;> try (exfalso; omega))
      | (with_reducible refine WR.le (by omega) (by omega) (fun _ => ?_) (fun _ => ?_) <;> try (exfalso; omega))
      | (with_reducible refine WR.eq (by omega) (by omega) (fun _ => ?_) (fun _ => ?_) <;> try (exfalso; omega))
      | (with_reducible refine WR.ne (by omega) (by omega) (fun _ => ?_) (fun _ => ?_) <;> try (exfalso; omega))
      | with_reducible refine WR.lt0 (by omega) ?_
      | with_reducible refine WR.ge0 (by omega) ?_
      | (with_reducible refine WR.bz (fun _ => ?_) (fun _ => ?_) <;> try contradiction)
      | (with_reducible refine WR.bn (fun _ => ?_) (fun _ => ?_) <;> try contradiction)
      | (with_reducible refine WR.br (fun _ => ?_) (fun _ => ?_) <;> try contradiction)
      | refine WR.gIk rfl (by assumption) (by with_reducible assumption) ?_
      | refine WR.gI rfl (by assumption) ?_
      | refine WR.gR rfl (by assumption) (by assumption) ?_
      | refine WR.gN rfl (by assumption) (by assumption) ?_
      | refine WR.gL rfl (by assumption) ?_
      | refine WR.addn rfl (by with_reducible rfl) (by with_reducible rfl) ?_
      | refine WR.muln rfl (by with_reducible rfl) (by with_reducible rfl) ?_
      | refine WR.subn rfl (by with_reducible rfl) (by with_reducible rfl) (by omega) ?_
      | (refine WR.decn rfl rfl ?_; dsimp only [List.set])
      | (refine WR.incn rfl rfl ?_; dsimp only [List.set])
      | (refine WR.go rfl rfl ?_; try dsimp only [List.set])
      | refine WR.aIk rfl (by assumption) rfl (by first | with_reducible rfl | with_reducible assumption) (by omega) (by with_reducible assumption) ?_
      | refine WR.aI rfl (by assumption) rfl (by first | with_reducible rfl | with_reducible assumption) (by omega) ?_
      | refine WR.sI rfl (by assumption) rfl (by first | with_reducible rfl | with_reducible assumption) (by omega) ?_
      | refine WR.pI rfl (by assumption) ?_
      | refine WR.rt rfl rfl rfl rfl ?_
      | refine WR.rz rfl rfl (by decide) ?_))
  refine WR.C0i rfl p1 rfl (k_camps (d + 2) I hp0) ?_
  iterate 2 (first
      | (with_reducible refine WR.lt (by omega) (by omega) (fun _ => ?_) (fun _ => ?_) <;> try (exfalso; omega))
      | (with_reducible refine WR.le (by omega) (by omega) (fun _ => ?_) (fun _ => ?_) <;> try (exfalso; omega))
      | (with_reducible refine WR.eq (by omega) (by omega) (fun _ => ?_) (fun _ => ?_) <;> try (exfalso; omega))
      | (with_reducible refine WR.ne (by omega) (by omega) (fun _ => ?_) (fun _ => ?_) <;> try (exfalso; omega))
      | with_reducible refine WR.lt0 (by omega) ?_
      | with_reducible refine WR.ge0 (by omega) ?_
      | (with_reducible refine WR.bz (fun _ => ?_) (fun _ => ?_) <;> try contradiction)
      | (with_reducible refine WR.bn (fun _ => ?_) (fun _ => ?_) <;> try contradiction)
      | (with_reducible refine WR.br (fun _ => ?_) (fun _ => ?_) <;> try contradiction)
      | refine WR.gIk rfl (by assumption) (by with_reducible assumption) ?_
      | refine WR.gI rfl (by assumption) ?_
      | refine WR.gR rfl (by assumption) (by assumption) ?_
      | refine WR.gN rfl (by assumption) (by assumption) ?_
      | refine WR.gL rfl (by assumption) ?_
      | refine WR.addn rfl (by with_reducible rfl) (by with_reducible rfl) ?_
      | refine WR.muln rfl (by with_reducible rfl) (by with_reducible rfl) ?_
      | refine WR.subn rfl (by with_reducible rfl) (by with_reducible rfl) (by omega) ?_
      | (refine WR.decn rfl rfl ?_; dsimp only [List.set])
      | (refine WR.incn rfl rfl ?_; dsimp only [List.set])
      | (refine WR.go rfl rfl ?_; try dsimp only [List.set])
      | refine WR.aIk rfl (by assumption) rfl (by first | with_reducible rfl | with_reducible assumption) (by omega) (by with_reducible assumption) ?_
      | refine WR.aI rfl (by assumption) rfl (by first | with_reducible rfl | with_reducible assumption) (by omega) ?_
      | refine WR.sI rfl (by assumption) rfl (by first | with_reducible rfl | with_reducible assumption) (by omega) ?_
      | refine WR.pI rfl (by assumption) ?_
      | refine WR.rt rfl rfl rfl rfl ?_
      | refine WR.rz rfl rfl (by decide) ?_)
  · rename_i h
    rw [h]
    repeat' (first
      | (with_reducible refine WR.lt (by omega) (by omega) (fun _ => ?_) (fun _ => ?_) <;> try (exfalso; omega))
      | (with_reducible refine WR.le (by omega) (by omega) (fun _ => ?_) (fun _ => ?_) <;> try (exfalso; omega))
      | (with_reducible refine WR.eq (by omega) (by omega) (fun _ => ?_) (fun _ => ?_) <;> try (exfalso; omega))
      | (with_reducible refine WR.ne (by omega) (by omega) (fun _ => ?_) (fun _ => ?_) <;> try (exfalso; omega))
      | with_reducible refine WR.lt0 (by omega) ?_
      | with_reducible refine WR.ge0 (by omega) ?_
      | (with_reducible refine WR.bz (fun _ => ?_) (fun _ => ?_) <;> try contradiction)
      | (with_reducible refine WR.bn (fun _ => ?_) (fun _ => ?_) <;> try contradiction)
      | (with_reducible refine WR.br (fun _ => ?_) (fun _ => ?_) <;> try contradiction)
      | refine WR.gIk rfl (by assumption) (by with_reducible assumption) ?_
      | refine WR.gI rfl (by assumption) ?_
      | refine WR.gR rfl (by assumption) (by assumption) ?_
      | refine WR.gN rfl (by assumption) (by assumption) ?_
      | refine WR.gL rfl (by assumption) ?_
      | refine WR.addn rfl (by with_reducible rfl) (by with_reducible rfl) ?_
      | refine WR.muln rfl (by with_reducible rfl) (by with_reducible rfl) ?_
      | refine WR.subn rfl (by with_reducible rfl) (by with_reducible rfl) (by omega) ?_
      | (refine WR.decn rfl rfl ?_; dsimp only [List.set])
      | (refine WR.incn rfl rfl ?_; dsimp only [List.set])
      | (refine WR.go rfl rfl ?_; try dsimp only [List.set])
      | refine WR.aIk rfl (by assumption) rfl (by first | with_reducible rfl | with_reducible assumption) (by omega) (by with_reducible assumption) ?_
      | refine WR.aI rfl (by assumption) rfl (by first | with_reducible rfl | with_reducible assumption) (by omega) ?_
      | refine WR.sI rfl (by assumption) rfl (by first | with_reducible rfl | with_reducible assumption) (by omega) ?_
      | refine WR.pI rfl (by assumption) ?_
      | refine WR.rt rfl rfl rfl rfl ?_
      | refine WR.rz rfl rfl (by decide) ?_)
    exact ⟨rfl, rfl⟩
  · rename_i h
    rw [h]
    repeat' ((with_reducible fail_if_success show WR _ _ _ 17 _ _ _ _); (first
      | (with_reducible refine WR.lt (by omega) (by omega) (fun _ => ?_) (fun _ => ?_) <;> try (exfalso; omega))
      | (with_reducible refine WR.le (by omega) (by omega) (fun _ => ?_) (fun _ => ?_) <;> try (exfalso; omega))
      | (with_reducible refine WR.eq (by omega) (by omega) (fun _ => ?_) (fun _ => ?_) <;> try (exfalso; omega))
      | (with_reducible refine WR.ne (by omega) (by omega) (fun _ => ?_) (fun _ => ?_) <;> try (exfalso; omega))
      | with_reducible refine WR.lt0 (by omega) ?_
      | with_reducible refine WR.ge0 (by omega) ?_
      | (with_reducible refine WR.bz (fun _ => ?_) (fun _ => ?_) <;> try contradiction)
      | (with_reducible refine WR.bn (fun _ => ?_) (fun _ => ?_) <;> try contradiction)
      | (with_reducible refine WR.br (fun _ => ?_) (fun _ => ?_) <;> try contradiction)
      | refine WR.gIk rfl (by assumption) (by with_reducible assumption) ?_
      | refine WR.gI rfl (by assumption) ?_
      | refine WR.gR rfl (by assumption) (by assumption) ?_
      | refine WR.gN rfl (by assumption) (by assumption) ?_
      | refine WR.gL rfl (by assumption) ?_
      | refine WR.addn rfl (by with_reducible rfl) (by with_reducible rfl) ?_
      | refine WR.muln rfl (by with_reducible rfl) (by with_reducible rfl) ?_
      | refine WR.subn rfl (by with_reducible rfl) (by with_reducible rfl) (by omega) ?_
      | (refine WR.decn rfl rfl ?_; dsimp only [List.set])
      | (refine WR.incn rfl rfl ?_; dsimp only [List.set])
      | (refine WR.go rfl rfl ?_; try dsimp only [List.set])
      | refine WR.aIk rfl (by assumption) rfl (by first | with_reducible rfl | with_reducible assumption) (by omega) (by with_reducible assumption) ?_
      | refine WR.aI rfl (by assumption) rfl (by first | with_reducible rfl | with_reducible assumption) (by omega) ?_
      | refine WR.sI rfl (by assumption) rfl (by first | with_reducible rfl | with_reducible assumption) (by omega) ?_
      | refine WR.pI rfl (by assumption) ?_
      | refine WR.rt rfl rfl rfl rfl ?_
      | refine WR.rz rfl rfl (by decide) ?_))
    refine WR.C1i rfl p1 rfl (k_supp d I hp0 hq ho (by omega) (by omega)) ?_
    iterate 2 (first
      | (with_reducible refine WR.lt (by omega) (by omega) (fun _ => ?_) (fun _ => ?_) <;> try (exfalso; omega))
      | (with_reducible refine WR.le (by omega) (by omega) (fun _ => ?_) (fun _ => ?_) <;> try (exfalso; omega))
      | (with_reducible refine WR.eq (by omega) (by omega) (fun _ => ?_) (fun _ => ?_) <;> try (exfalso; omega))
      | (with_reducible refine WR.ne (by omega) (by omega) (fun _ => ?_) (fun _ => ?_) <;> try (exfalso; omega))
      | with_reducible refine WR.lt0 (by omega) ?_
      | with_reducible refine WR.ge0 (by omega) ?_
      | (with_reducible refine WR.bz (fun _ => ?_) (fun _ => ?_) <;> try contradiction)
      | (with_reducible refine WR.bn (fun _ => ?_) (fun _ => ?_) <;> try contradiction)
      | (with_reducible refine WR.br (fun _ => ?_) (fun _ => ?_) <;> try contradiction)
      | refine WR.gIk rfl (by assumption) (by with_reducible assumption) ?_
      | refine WR.gI rfl (by assumption) ?_
      | refine WR.gR rfl (by assumption) (by assumption) ?_
      | refine WR.gN rfl (by assumption) (by assumption) ?_
      | refine WR.gL rfl (by assumption) ?_
      | refine WR.addn rfl (by with_reducible rfl) (by with_reducible rfl) ?_
      | refine WR.muln rfl (by with_reducible rfl) (by with_reducible rfl) ?_
      | refine WR.subn rfl (by with_reducible rfl) (by with_reducible rfl) (by omega) ?_
      | (refine WR.decn rfl rfl ?_; dsimp only [List.set])
      | (refine WR.incn rfl rfl ?_; dsimp only [List.set])
      | (refine WR.go rfl rfl ?_; try dsimp only [List.set])
      | refine WR.aIk rfl (by assumption) rfl (by first | with_reducible rfl | with_reducible assumption) (by omega) (by with_reducible assumption) ?_
      | refine WR.aI rfl (by assumption) rfl (by first | with_reducible rfl | with_reducible assumption) (by omega) ?_
      | refine WR.sI rfl (by assumption) rfl (by first | with_reducible rfl | with_reducible assumption) (by omega) ?_
      | refine WR.pI rfl (by assumption) ?_
      | refine WR.rt rfl rfl rfl rfl ?_
      | refine WR.rz rfl rfl (by decide) ?_)
    · rename_i h3
      rw [h3]
      repeat' (first
      | (with_reducible refine WR.lt (by omega) (by omega) (fun _ => ?_) (fun _ => ?_) <;> try (exfalso; omega))
      | (with_reducible refine WR.le (by omega) (by omega) (fun _ => ?_) (fun _ => ?_) <;> try (exfalso; omega))
      | (with_reducible refine WR.eq (by omega) (by omega) (fun _ => ?_) (fun _ => ?_) <;> try (exfalso; omega))
      | (with_reducible refine WR.ne (by omega) (by omega) (fun _ => ?_) (fun _ => ?_) <;> try (exfalso; omega))
      | with_reducible refine WR.lt0 (by omega) ?_
      | with_reducible refine WR.ge0 (by omega) ?_
      | (with_reducible refine WR.bz (fun _ => ?_) (fun _ => ?_) <;> try contradiction)
      | (with_reducible refine WR.bn (fun _ => ?_) (fun _ => ?_) <;> try contradiction)
      | (with_reducible refine WR.br (fun _ => ?_) (fun _ => ?_) <;> try contradiction)
      | refine WR.gIk rfl (by assumption) (by with_reducible assumption) ?_
      | refine WR.gI rfl (by assumption) ?_
      | refine WR.gR rfl (by assumption) (by assumption) ?_
      | refine WR.gN rfl (by assumption) (by assumption) ?_
      | refine WR.gL rfl (by assumption) ?_
      | refine WR.addn rfl (by with_reducible rfl) (by with_reducible rfl) ?_
      | refine WR.muln rfl (by with_reducible rfl) (by with_reducible rfl) ?_
      | refine WR.subn rfl (by with_reducible rfl) (by with_reducible rfl) (by omega) ?_
      | (refine WR.decn rfl rfl ?_; dsimp only [List.set])
      | (refine WR.incn rfl rfl ?_; dsimp only [List.set])
      | (refine WR.go rfl rfl ?_; try dsimp only [List.set])
      | refine WR.aIk rfl (by assumption) rfl (by first | with_reducible rfl | with_reducible assumption) (by omega) (by with_reducible assumption) ?_
      | refine WR.aI rfl (by assumption) rfl (by first | with_reducible rfl | with_reducible assumption) (by omega) ?_
      | refine WR.sI rfl (by assumption) rfl (by first | with_reducible rfl | with_reducible assumption) (by omega) ?_
      | refine WR.pI rfl (by assumption) ?_
      | refine WR.rt rfl rfl rfl rfl ?_
      | refine WR.rz rfl rfl (by decide) ?_)
      exact ⟨rfl, rfl⟩
    · rename_i h3
      rw [h3]
      repeat' (first
      | (with_reducible refine WR.lt (by omega) (by omega) (fun _ => ?_) (fun _ => ?_) <;> try (exfalso; omega))
      | (with_reducible refine WR.le (by omega) (by omega) (fun _ => ?_) (fun _ => ?_) <;> try (exfalso; omega))
      | (with_reducible refine WR.eq (by omega) (by omega) (fun _ => ?_) (fun _ => ?_) <;> try (exfalso; omega))
      | (with_reducible refine WR.ne (by omega) (by omega) (fun _ => ?_) (fun _ => ?_) <;> try (exfalso; omega))
      | with_reducible refine WR.lt0 (by omega) ?_
      | with_reducible refine WR.ge0 (by omega) ?_
      | (with_reducible refine WR.bz (fun _ => ?_) (fun _ => ?_) <;> try contradiction)
      | (with_reducible refine WR.bn (fun _ => ?_) (fun _ => ?_) <;> try contradiction)
      | (with_reducible refine WR.br (fun _ => ?_) (fun _ => ?_) <;> try contradiction)
      | refine WR.gIk rfl (by assumption) (by with_reducible assumption) ?_
      | refine WR.gI rfl (by assumption) ?_
      | refine WR.gR rfl (by assumption) (by assumption) ?_
      | refine WR.gN rfl (by assumption) (by assumption) ?_
      | refine WR.gL rfl (by assumption) ?_
      | refine WR.addn rfl (by with_reducible rfl) (by with_reducible rfl) ?_
      | refine WR.muln rfl (by with_reducible rfl) (by with_reducible rfl) ?_
      | refine WR.subn rfl (by with_reducible rfl) (by with_reducible rfl) (by omega) ?_
      | (refine WR.decn rfl rfl ?_; dsimp only [List.set])
      | (refine WR.incn rfl rfl ?_; dsimp only [List.set])
      | (refine WR.go rfl rfl ?_; try dsimp only [List.set])
      | refine WR.aIk rfl (by assumption) rfl (by first | with_reducible rfl | with_reducible assumption) (by omega) (by with_reducible assumption) ?_
      | refine WR.aI rfl (by assumption) rfl (by first | with_reducible rfl | with_reducible assumption) (by omega) ?_
      | refine WR.sI rfl (by assumption) rfl (by first | with_reducible rfl | with_reducible assumption) (by omega) ?_
      | refine WR.pI rfl (by assumption) ?_
      | refine WR.rt rfl rfl rfl rfl ?_
      | refine WR.rz rfl rfl (by decide) ?_)
      exact ⟨rfl, rfl⟩
end STAT
