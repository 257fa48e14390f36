/-! the reference: calls of its face, the smaller ones -/
section PUBA
variable {Z : xZ}
theorem f_rep_n {r : Nat} (h : r < 5) : f_rep (nI r) = true := by
  simp only [f_rep, Bool.and_eq_true, decide_eq_true_eq]
  exact ⟨nI_pos' (by omega), nI_lt h (by omega)⟩
set_option maxHeartbeats 1000000 in
theorem r_drop (d : Nat) (I : xI) {i : Nat} (hw : f_wok I) (hi : i < f_w I) (hz : zok Z) : ER Z (d + 3) 127 I [.ref 74, .int (nI i)] (fun I' v => I' = f_rm I i ∧ v = some (.int (bI true))) := by
  have hw1 := hw.1
  have hw2 := hw.2
  refine ER.of (ls := [some (.ref 74), some (.int (nI i))]) rfl rfl ?_
  repeat' ((with_reducible fail_if_success show WR _ _ _ 16 _ _ _ _); (first
      | (with_reducible refine WR.lt (by omega) (by omega) (fun _ => ?_) (fun _ => ?_) <;> try (exfalso; omega))
      | (with_reducible refine WR.le (by omega) (by omega) (fun _ => ?_) (fun _ => ?_) <;> try (exfalso; omega))
      | (with_reducible refine WR.eq (by omega) (by omega) (fun _ => ?_) (fun _ => ?_) <;> try (exfalso; omega))
      | (with_reducible refine WR.ne (by omega) (by omega) (fun _ => ?_) (fun _ => ?_) <;> try (exfalso; omega))
      | with_reducible refine WR.lt0 (by omega) ?_
      | with_reducible refine WR.ge0 (by omega) ?_
      | (with_reducible refine WR.bz (fun _ => ?_) (fun _ => ?_) <;> try contradiction)
      | (with_reducible refine WR.bn (fun _ => ?_) (fun _ => ?_) <;> try contradiction)
      | (with_reducible refine WR.br (fun _ => ?_) (fun _ => ?_) <;> try contradiction)
      | refine WR.gik hz rfl (by with_reducible assumption) ?_
      | refine WR.gi hz rfl ?_
      | refine WR.gr hz rfl rfl ?_
      | refine WR.addn rfl (by with_reducible rfl) (by with_reducible rfl) ?_
      | refine WR.muln rfl (by with_reducible rfl) (by with_reducible rfl) ?_
      | refine WR.subn rfl (by with_reducible rfl) (by with_reducible rfl) (by omega) ?_
      | (refine WR.incn rfl rfl ?_; dsimp only [List.set])
      | (refine WR.go rfl rfl ?_; try dsimp only [List.set])
      | refine WR.aik hz rfl rfl rfl rfl (by first | with_reducible rfl | with_reducible assumption) (by omega) (by with_reducible assumption) ?_
      | refine WR.ai hz rfl rfl rfl rfl (by first | with_reducible rfl | with_reducible assumption) (by omega) ?_
      | refine WR.si hz rfl rfl rfl rfl (by first | with_reducible rfl | with_reducible assumption) (by omega) ?_
      | refine WR.az hz rfl rfl rfl rfl (by first | with_reducible rfl | with_reducible assumption) (by omega) ?_
      | refine WR.sz hz rfl rfl rfl rfl (by first | with_reducible rfl | with_reducible assumption) (by omega) (by decide) ?_
      | refine WR.pi hz rfl ?_
      | refine WR.rt rfl rfl rfl rfl ?_
      | refine WR.rz rfl rfl (by decide) ?_))
  refine WR.V1v hz rfl rfl (r_remove d I hw hi hz) ?_
  repeat' (first
      | (with_reducible refine WR.lt (by omega) (by omega) (fun _ => ?_) (fun _ => ?_) <;> try (exfalso; omega))
      | (with_reducible refine WR.le (by omega) (by omega) (fun _ => ?_) (fun _ => ?_) <;> try (exfalso; omega))
      | (with_reducible refine WR.eq (by omega) (by omega) (fun _ => ?_) (fun _ => ?_) <;> try (exfalso; omega))
      | (with_reducible refine WR.ne (by omega) (by omega) (fun _ => ?_) (fun _ => ?_) <;> try (exfalso; omega))
      | with_reducible refine WR.lt0 (by omega) ?_
      | with_reducible refine WR.ge0 (by omega) ?_
      | (with_reducible refine WR.bz (fun _ => ?_) (fun _ => ?_) <;> try contradiction)
      | (with_reducible refine WR.bn (fun _ => ?_) (fun _ => ?_) <;> try contradiction)
      | (with_reducible refine WR.br (fun _ => ?_) (fun _ => ?_) <;> try contradiction)
      | refine WR.gik hz rfl (by with_reducible assumption) ?_
      | refine WR.gi hz rfl ?_
      | refine WR.gr hz rfl rfl ?_
      | refine WR.addn rfl (by with_reducible rfl) (by with_reducible rfl) ?_
      | refine WR.muln rfl (by with_reducible rfl) (by with_reducible rfl) ?_
      | refine WR.subn rfl (by with_reducible rfl) (by with_reducible rfl) (by omega) ?_
      | (refine WR.incn rfl rfl ?_; dsimp only [List.set])
      | (refine WR.go rfl rfl ?_; try dsimp only [List.set])
      | refine WR.aik hz rfl rfl rfl rfl (by first | with_reducible rfl | with_reducible assumption) (by omega) (by with_reducible assumption) ?_
      | refine WR.ai hz rfl rfl rfl rfl (by first | with_reducible rfl | with_reducible assumption) (by omega) ?_
      | refine WR.si hz rfl rfl rfl rfl (by first | with_reducible rfl | with_reducible assumption) (by omega) ?_
      | refine WR.az hz rfl rfl rfl rfl (by first | with_reducible rfl | with_reducible assumption) (by omega) ?_
      | refine WR.sz hz rfl rfl rfl rfl (by first | with_reducible rfl | with_reducible assumption) (by omega) (by decide) ?_
      | refine WR.pi hz rfl ?_
      | refine WR.rt rfl rfl rfl rfl ?_
      | refine WR.rz rfl rfl (by decide) ?_)
  exact ⟨rfl, rfl⟩
set_option maxHeartbeats 1000000 in
theorem r_drop_n (d : Nat) (I : xI) {x : Int32} (hw : f_wok I) (hx : x < 0 ∨ nI (f_w I) ≤ x) (hz : zok Z) : ER Z (d + 1) 127 I [.ref 74, .int x] (fun I' v => I' = I ∧ v = some (.int (bI false))) := by
  have hw1 := hw.1
  refine ER.of (ls := [some (.ref 74), some (.int x)]) rfl rfl ?_
  iterate 3 (first
      | (with_reducible refine WR.lt (by omega) (by omega) (fun _ => ?_) (fun _ => ?_) <;> try (exfalso; omega))
      | (with_reducible refine WR.le (by omega) (by omega) (fun _ => ?_) (fun _ => ?_) <;> try (exfalso; omega))
      | (with_reducible refine WR.eq (by omega) (by omega) (fun _ => ?_) (fun _ => ?_) <;> try (exfalso; omega))
      | (with_reducible refine WR.ne (by omega) (by omega) (fun _ => ?_) (fun _ => ?_) <;> try (exfalso; omega))
      | with_reducible refine WR.lt0 (by omega) ?_
      | with_reducible refine WR.ge0 (by omega) ?_
      | (with_reducible refine WR.bz (fun _ => ?_) (fun _ => ?_) <;> try contradiction)
      | (with_reducible refine WR.bn (fun _ => ?_) (fun _ => ?_) <;> try contradiction)
      | (with_reducible refine WR.br (fun _ => ?_) (fun _ => ?_) <;> try contradiction)
      | refine WR.gik hz rfl (by with_reducible assumption) ?_
      | refine WR.gi hz rfl ?_
      | refine WR.gr hz rfl rfl ?_
      | refine WR.addn rfl (by with_reducible rfl) (by with_reducible rfl) ?_
      | refine WR.muln rfl (by with_reducible rfl) (by with_reducible rfl) ?_
      | refine WR.subn rfl (by with_reducible rfl) (by with_reducible rfl) (by omega) ?_
      | (refine WR.incn rfl rfl ?_; dsimp only [List.set])
      | (refine WR.go rfl rfl ?_; try dsimp only [List.set])
      | refine WR.aik hz rfl rfl rfl rfl (by first | with_reducible rfl | with_reducible assumption) (by omega) (by with_reducible assumption) ?_
      | refine WR.ai hz rfl rfl rfl rfl (by first | with_reducible rfl | with_reducible assumption) (by omega) ?_
      | refine WR.si hz rfl rfl rfl rfl (by first | with_reducible rfl | with_reducible assumption) (by omega) ?_
      | refine WR.az hz rfl rfl rfl rfl (by first | with_reducible rfl | with_reducible assumption) (by omega) ?_
      | refine WR.sz hz rfl rfl rfl rfl (by first | with_reducible rfl | with_reducible assumption) (by omega) (by decide) ?_
      | refine WR.pi hz rfl ?_
      | refine WR.rt rfl rfl rfl rfl ?_
      | refine WR.rz rfl rfl (by decide) ?_)
  · repeat' (first
      | (with_reducible refine WR.lt (by omega) (by omega) (fun _ => ?_) (fun _ => ?_) <;> try (exfalso; omega))
      | (with_reducible refine WR.le (by omega) (by omega) (fun _ => ?_) (fun _ => ?_) <;> try (exfalso; omega))
      | (with_reducible refine WR.eq (by omega) (by omega) (fun _ => ?_) (fun _ => ?_) <;> try (exfalso; omega))
      | (with_reducible refine WR.ne (by omega) (by omega) (fun _ => ?_) (fun _ => ?_) <;> try (exfalso; omega))
      | with_reducible refine WR.lt0 (by omega) ?_
      | with_reducible refine WR.ge0 (by omega) ?_
      | (with_reducible refine WR.bz (fun _ => ?_) (fun _ => ?_) <;> try contradiction)
      | (with_reducible refine WR.bn (fun _ => ?_) (fun _ => ?_) <;> try contradiction)
      | (with_reducible refine WR.br (fun _ => ?_) (fun _ => ?_) <;> try contradiction)
      | refine WR.gik hz rfl (by with_reducible assumption) ?_
      | refine WR.gi hz rfl ?_
      | refine WR.gr hz rfl rfl ?_
      | refine WR.addn rfl (by with_reducible rfl) (by with_reducible rfl) ?_
      | refine WR.muln rfl (by with_reducible rfl) (by with_reducible rfl) ?_
      | refine WR.subn rfl (by with_reducible rfl) (by with_reducible rfl) (by omega) ?_
      | (refine WR.incn rfl rfl ?_; dsimp only [List.set])
      | (refine WR.go rfl rfl ?_; try dsimp only [List.set])
      | refine WR.aik hz rfl rfl rfl rfl (by first | with_reducible rfl | with_reducible assumption) (by omega) (by with_reducible assumption) ?_
      | refine WR.ai hz rfl rfl rfl rfl (by first | with_reducible rfl | with_reducible assumption) (by omega) ?_
      | refine WR.si hz rfl rfl rfl rfl (by first | with_reducible rfl | with_reducible assumption) (by omega) ?_
      | refine WR.az hz rfl rfl rfl rfl (by first | with_reducible rfl | with_reducible assumption) (by omega) ?_
      | refine WR.sz hz rfl rfl rfl rfl (by first | with_reducible rfl | with_reducible assumption) (by omega) (by decide) ?_
      | refine WR.pi hz rfl ?_
      | refine WR.rt rfl rfl rfl rfl ?_
      | refine WR.rz rfl rfl (by decide) ?_)
    exact ⟨rfl, rfl⟩
  · rename_i h
    iterate 5 (first
      | (with_reducible refine WR.lt (by omega) (by omega) (fun _ => ?_) (fun _ => ?_) <;> try (exfalso; omega))
      | (with_reducible refine WR.le (by omega) (by omega) (fun _ => ?_) (fun _ => ?_) <;> try (exfalso; omega))
      | (with_reducible refine WR.eq (by omega) (by omega) (fun _ => ?_) (fun _ => ?_) <;> try (exfalso; omega))
      | (with_reducible refine WR.ne (by omega) (by omega) (fun _ => ?_) (fun _ => ?_) <;> try (exfalso; omega))
      | with_reducible refine WR.lt0 (by omega) ?_
      | with_reducible refine WR.ge0 (by omega) ?_
      | (with_reducible refine WR.bz (fun _ => ?_) (fun _ => ?_) <;> try contradiction)
      | (with_reducible refine WR.bn (fun _ => ?_) (fun _ => ?_) <;> try contradiction)
      | (with_reducible refine WR.br (fun _ => ?_) (fun _ => ?_) <;> try contradiction)
      | refine WR.gik hz rfl (by with_reducible assumption) ?_
      | refine WR.gi hz rfl ?_
      | refine WR.gr hz rfl rfl ?_
      | refine WR.addn rfl (by with_reducible rfl) (by with_reducible rfl) ?_
      | refine WR.muln rfl (by with_reducible rfl) (by with_reducible rfl) ?_
      | refine WR.subn rfl (by with_reducible rfl) (by with_reducible rfl) (by omega) ?_
      | (refine WR.incn rfl rfl ?_; dsimp only [List.set])
      | (refine WR.go rfl rfl ?_; try dsimp only [List.set])
      | refine WR.aik hz rfl rfl rfl rfl (by first | with_reducible rfl | with_reducible assumption) (by omega) (by with_reducible assumption) ?_
      | refine WR.ai hz rfl rfl rfl rfl (by first | with_reducible rfl | with_reducible assumption) (by omega) ?_
      | refine WR.si hz rfl rfl rfl rfl (by first | with_reducible rfl | with_reducible assumption) (by omega) ?_
      | refine WR.az hz rfl rfl rfl rfl (by first | with_reducible rfl | with_reducible assumption) (by omega) ?_
      | refine WR.sz hz rfl rfl rfl rfl (by first | with_reducible rfl | with_reducible assumption) (by omega) (by decide) ?_
      | refine WR.pi hz rfl ?_
      | refine WR.rt rfl rfl rfl rfl ?_
      | refine WR.rz rfl rfl (by decide) ?_)
    · rename_i h2
      exact absurd h2 (Int32.not_lt.mpr (hx.resolve_left h))
    · repeat' (first
      | (with_reducible refine WR.lt (by omega) (by omega) (fun _ => ?_) (fun _ => ?_) <;> try (exfalso; omega))
      | (with_reducible refine WR.le (by omega) (by omega) (fun _ => ?_) (fun _ => ?_) <;> try (exfalso; omega))
      | (with_reducible refine WR.eq (by omega) (by omega) (fun _ => ?_) (fun _ => ?_) <;> try (exfalso; omega))
      | (with_reducible refine WR.ne (by omega) (by omega) (fun _ => ?_) (fun _ => ?_) <;> try (exfalso; omega))
      | with_reducible refine WR.lt0 (by omega) ?_
      | with_reducible refine WR.ge0 (by omega) ?_
      | (with_reducible refine WR.bz (fun _ => ?_) (fun _ => ?_) <;> try contradiction)
      | (with_reducible refine WR.bn (fun _ => ?_) (fun _ => ?_) <;> try contradiction)
      | (with_reducible refine WR.br (fun _ => ?_) (fun _ => ?_) <;> try contradiction)
      | refine WR.gik hz rfl (by with_reducible assumption) ?_
      | refine WR.gi hz rfl ?_
      | refine WR.gr hz rfl rfl ?_
      | refine WR.addn rfl (by with_reducible rfl) (by with_reducible rfl) ?_
      | refine WR.muln rfl (by with_reducible rfl) (by with_reducible rfl) ?_
      | refine WR.subn rfl (by with_reducible rfl) (by with_reducible rfl) (by omega) ?_
      | (refine WR.incn rfl rfl ?_; dsimp only [List.set])
      | (refine WR.go rfl rfl ?_; try dsimp only [List.set])
      | refine WR.aik hz rfl rfl rfl rfl (by first | with_reducible rfl | with_reducible assumption) (by omega) (by with_reducible assumption) ?_
      | refine WR.ai hz rfl rfl rfl rfl (by first | with_reducible rfl | with_reducible assumption) (by omega) ?_
      | refine WR.si hz rfl rfl rfl rfl (by first | with_reducible rfl | with_reducible assumption) (by omega) ?_
      | refine WR.az hz rfl rfl rfl rfl (by first | with_reducible rfl | with_reducible assumption) (by omega) ?_
      | refine WR.sz hz rfl rfl rfl rfl (by first | with_reducible rfl | with_reducible assumption) (by omega) (by decide) ?_
      | refine WR.pi hz rfl ?_
      | refine WR.rt rfl rfl rfl rfl ?_
      | refine WR.rz rfl rfl (by decide) ?_)
      exact ⟨rfl, rfl⟩
def f_copy (I : xI) (i : Nat) : xI := x_u (f_mv I i (f_w I)) 74 20 (nI (f_w I + 1))
set_option maxHeartbeats 1000000 in
theorem r_copy (d : Nat) (I : xI) {i : Nat} (hw : f_wok I) (hi : i < f_w I) (h32 : f_w I < 32) (hz : zok Z) : ER Z (d + 2) 128 I [.ref 74, .int (nI i)] (fun I' v => I' = f_copy I i ∧ v = some (.int (bI true))) := by
  have hw1 := hw.1
  refine ER.of (ls := [some (.ref 74), some (.int (nI i))]) rfl rfl ?_
  repeat' ((with_reducible fail_if_success show WR _ _ _ 29 _ _ _ _); (first
      | (with_reducible refine WR.lt (by omega) (by omega) (fun _ => ?_) (fun _ => ?_) <;> try (exfalso; omega))
      | (with_reducible refine WR.le (by omega) (by omega) (fun _ => ?_) (fun _ => ?_) <;> try (exfalso; omega))
      | (with_reducible refine WR.eq (by omega) (by omega) (fun _ => ?_) (fun _ => ?_) <;> try (exfalso; omega))
      | (with_reducible refine WR.ne (by omega) (by omega) (fun _ => ?_) (fun _ => ?_) <;> try (exfalso; omega))
      | with_reducible refine WR.lt0 (by omega) ?_
      | with_reducible refine WR.ge0 (by omega) ?_
      | (with_reducible refine WR.bz (fun _ => ?_) (fun _ => ?_) <;> try contradiction)
      | (with_reducible refine WR.bn (fun _ => ?_) (fun _ => ?_) <;> try contradiction)
      | (with_reducible refine WR.br (fun _ => ?_) (fun _ => ?_) <;> try contradiction)
      | refine WR.gik hz rfl (by with_reducible assumption) ?_
      | refine WR.gi hz rfl ?_
      | refine WR.gr hz rfl rfl ?_
      | refine WR.addn rfl (by with_reducible rfl) (by with_reducible rfl) ?_
      | refine WR.muln rfl (by with_reducible rfl) (by with_reducible rfl) ?_
      | refine WR.subn rfl (by with_reducible rfl) (by with_reducible rfl) (by omega) ?_
      | (refine WR.incn rfl rfl ?_; dsimp only [List.set])
      | (refine WR.go rfl rfl ?_; try dsimp only [List.set])
      | refine WR.aik hz rfl rfl rfl rfl (by first | with_reducible rfl | with_reducible assumption) (by omega) (by with_reducible assumption) ?_
      | refine WR.ai hz rfl rfl rfl rfl (by first | with_reducible rfl | with_reducible assumption) (by omega) ?_
      | refine WR.si hz rfl rfl rfl rfl (by first | with_reducible rfl | with_reducible assumption) (by omega) ?_
      | refine WR.az hz rfl rfl rfl rfl (by first | with_reducible rfl | with_reducible assumption) (by omega) ?_
      | refine WR.sz hz rfl rfl rfl rfl (by first | with_reducible rfl | with_reducible assumption) (by omega) (by decide) ?_
      | refine WR.pi hz rfl ?_
      | refine WR.rt rfl rfl rfl rfl ?_
      | refine WR.rz rfl rfl (by decide) ?_))
  refine WR.V2v hz rfl rfl (r_move d I (by omega) (by omega) (by omega) hz) ?_
  have hk : f_mv I i (f_w I) 74 20 = nI (f_w I) := by rw [f_mv_o _ _ _ (by decide)]; exact hw1
  repeat' (first
      | (with_reducible refine WR.lt (by omega) (by omega) (fun _ => ?_) (fun _ => ?_) <;> try (exfalso; omega))
      | (with_reducible refine WR.le (by omega) (by omega) (fun _ => ?_) (fun _ => ?_) <;> try (exfalso; omega))
      | (with_reducible refine WR.eq (by omega) (by omega) (fun _ => ?_) (fun _ => ?_) <;> try (exfalso; omega))
      | (with_reducible refine WR.ne (by omega) (by omega) (fun _ => ?_) (fun _ => ?_) <;> try (exfalso; omega))
      | with_reducible refine WR.lt0 (by omega) ?_
      | with_reducible refine WR.ge0 (by omega) ?_
      | (with_reducible refine WR.bz (fun _ => ?_) (fun _ => ?_) <;> try contradiction)
      | (with_reducible refine WR.bn (fun _ => ?_) (fun _ => ?_) <;> try contradiction)
      | (with_reducible refine WR.br (fun _ => ?_) (fun _ => ?_) <;> try contradiction)
      | refine WR.gik hz rfl (by with_reducible assumption) ?_
      | refine WR.gi hz rfl ?_
      | refine WR.gr hz rfl rfl ?_
      | refine WR.addn rfl (by with_reducible rfl) (by with_reducible rfl) ?_
      | refine WR.muln rfl (by with_reducible rfl) (by with_reducible rfl) ?_
      | refine WR.subn rfl (by with_reducible rfl) (by with_reducible rfl) (by omega) ?_
      | (refine WR.incn rfl rfl ?_; dsimp only [List.set])
      | (refine WR.go rfl rfl ?_; try dsimp only [List.set])
      | refine WR.aik hz rfl rfl rfl rfl (by first | with_reducible rfl | with_reducible assumption) (by omega) (by with_reducible assumption) ?_
      | refine WR.ai hz rfl rfl rfl rfl (by first | with_reducible rfl | with_reducible assumption) (by omega) ?_
      | refine WR.si hz rfl rfl rfl rfl (by first | with_reducible rfl | with_reducible assumption) (by omega) ?_
      | refine WR.az hz rfl rfl rfl rfl (by first | with_reducible rfl | with_reducible assumption) (by omega) ?_
      | refine WR.sz hz rfl rfl rfl rfl (by first | with_reducible rfl | with_reducible assumption) (by omega) (by decide) ?_
      | refine WR.pi hz rfl ?_
      | refine WR.rt rfl rfl rfl rfl ?_
      | refine WR.rz rfl rfl (by decide) ?_)
  exact ⟨rfl, rfl⟩
set_option maxHeartbeats 1000000 in
theorem r_copy_n (d : Nat) (I : xI) {x : Int32} (hw : f_wok I) (hx : x < 0 ∨ nI (f_w I) ≤ x ∨ f_w I = 32) (hz : zok Z) : ER Z (d + 1) 128 I [.ref 74, .int x] (fun I' v => I' = I ∧ v = some (.int (bI false))) := by
  have hw1 := hw.1
  have hw2 := hw.2
  refine ER.of (ls := [some (.ref 74), some (.int x)]) rfl rfl ?_
  iterate 3 (first
      | (with_reducible refine WR.lt (by omega) (by omega) (fun _ => ?_) (fun _ => ?_) <;> try (exfalso; omega))
      | (with_reducible refine WR.le (by omega) (by omega) (fun _ => ?_) (fun _ => ?_) <;> try (exfalso; omega))
      | (with_reducible refine WR.eq (by omega) (by omega) (fun _ => ?_) (fun _ => ?_) <;> try (exfalso; omega))
      | (with_reducible refine WR.ne (by omega) (by omega) (fun _ => ?_) (fun _ => ?_) <;> try (exfalso; omega))
      | with_reducible refine WR.lt0 (by omega) ?_
      | with_reducible refine WR.ge0 (by omega) ?_
      | (with_reducible refine WR.bz (fun _ => ?_) (fun _ => ?_) <;> try contradiction)
      | (with_reducible refine WR.bn (fun _ => ?_) (fun _ => ?_) <;> try contradiction)
      | (with_reducible refine WR.br (fun _ => ?_) (fun _ => ?_) <;> try contradiction)
      | refine WR.gik hz rfl (by with_reducible assumption) ?_
      | refine WR.gi hz rfl ?_
      | refine WR.gr hz rfl rfl ?_
      | refine WR.addn rfl (by with_reducible rfl) (by with_reducible rfl) ?_
      | refine WR.muln rfl (by with_reducible rfl) (by with_reducible rfl) ?_
      | refine WR.subn rfl (by with_reducible rfl) (by with_reducible rfl) (by omega) ?_
      | (refine WR.incn rfl rfl ?_; dsimp only [List.set])
      | (refine WR.go rfl rfl ?_; try dsimp only [List.set])
      | refine WR.aik hz rfl rfl rfl rfl (by first | with_reducible rfl | with_reducible assumption) (by omega) (by with_reducible assumption) ?_
      | refine WR.ai hz rfl rfl rfl rfl (by first | with_reducible rfl | with_reducible assumption) (by omega) ?_
      | refine WR.si hz rfl rfl rfl rfl (by first | with_reducible rfl | with_reducible assumption) (by omega) ?_
      | refine WR.az hz rfl rfl rfl rfl (by first | with_reducible rfl | with_reducible assumption) (by omega) ?_
      | refine WR.sz hz rfl rfl rfl rfl (by first | with_reducible rfl | with_reducible assumption) (by omega) (by decide) ?_
      | refine WR.pi hz rfl ?_
      | refine WR.rt rfl rfl rfl rfl ?_
      | refine WR.rz rfl rfl (by decide) ?_)
  · repeat' (first
      | (with_reducible refine WR.lt (by omega) (by omega) (fun _ => ?_) (fun _ => ?_) <;> try (exfalso; omega))
      | (with_reducible refine WR.le (by omega) (by omega) (fun _ => ?_) (fun _ => ?_) <;> try (exfalso; omega))
      | (with_reducible refine WR.eq (by omega) (by omega) (fun _ => ?_) (fun _ => ?_) <;> try (exfalso; omega))
      | (with_reducible refine WR.ne (by omega) (by omega) (fun _ => ?_) (fun _ => ?_) <;> try (exfalso; omega))
      | with_reducible refine WR.lt0 (by omega) ?_
      | with_reducible refine WR.ge0 (by omega) ?_
      | (with_reducible refine WR.bz (fun _ => ?_) (fun _ => ?_) <;> try contradiction)
      | (with_reducible refine WR.bn (fun _ => ?_) (fun _ => ?_) <;> try contradiction)
      | (with_reducible refine WR.br (fun _ => ?_) (fun _ => ?_) <;> try contradiction)
      | refine WR.gik hz rfl (by with_reducible assumption) ?_
      | refine WR.gi hz rfl ?_
      | refine WR.gr hz rfl rfl ?_
      | refine WR.addn rfl (by with_reducible rfl) (by with_reducible rfl) ?_
      | refine WR.muln rfl (by with_reducible rfl) (by with_reducible rfl) ?_
      | refine WR.subn rfl (by with_reducible rfl) (by with_reducible rfl) (by omega) ?_
      | (refine WR.incn rfl rfl ?_; dsimp only [List.set])
      | (refine WR.go rfl rfl ?_; try dsimp only [List.set])
      | refine WR.aik hz rfl rfl rfl rfl (by first | with_reducible rfl | with_reducible assumption) (by omega) (by with_reducible assumption) ?_
      | refine WR.ai hz rfl rfl rfl rfl (by first | with_reducible rfl | with_reducible assumption) (by omega) ?_
      | refine WR.si hz rfl rfl rfl rfl (by first | with_reducible rfl | with_reducible assumption) (by omega) ?_
      | refine WR.az hz rfl rfl rfl rfl (by first | with_reducible rfl | with_reducible assumption) (by omega) ?_
      | refine WR.sz hz rfl rfl rfl rfl (by first | with_reducible rfl | with_reducible assumption) (by omega) (by decide) ?_
      | refine WR.pi hz rfl ?_
      | refine WR.rt rfl rfl rfl rfl ?_
      | refine WR.rz rfl rfl (by decide) ?_)
    exact ⟨rfl, rfl⟩
  · rename_i h
    iterate 5 (first
      | (with_reducible refine WR.lt (by omega) (by omega) (fun _ => ?_) (fun _ => ?_) <;> try (exfalso; omega))
      | (with_reducible refine WR.le (by omega) (by omega) (fun _ => ?_) (fun _ => ?_) <;> try (exfalso; omega))
      | (with_reducible refine WR.eq (by omega) (by omega) (fun _ => ?_) (fun _ => ?_) <;> try (exfalso; omega))
      | (with_reducible refine WR.ne (by omega) (by omega) (fun _ => ?_) (fun _ => ?_) <;> try (exfalso; omega))
      | with_reducible refine WR.lt0 (by omega) ?_
      | with_reducible refine WR.ge0 (by omega) ?_
      | (with_reducible refine WR.bz (fun _ => ?_) (fun _ => ?_) <;> try contradiction)
      | (with_reducible refine WR.bn (fun _ => ?_) (fun _ => ?_) <;> try contradiction)
      | (with_reducible refine WR.br (fun _ => ?_) (fun _ => ?_) <;> try contradiction)
      | refine WR.gik hz rfl (by with_reducible assumption) ?_
      | refine WR.gi hz rfl ?_
      | refine WR.gr hz rfl rfl ?_
      | refine WR.addn rfl (by with_reducible rfl) (by with_reducible rfl) ?_
      | refine WR.muln rfl (by with_reducible rfl) (by with_reducible rfl) ?_
      | refine WR.subn rfl (by with_reducible rfl) (by with_reducible rfl) (by omega) ?_
      | (refine WR.incn rfl rfl ?_; dsimp only [List.set])
      | (refine WR.go rfl rfl ?_; try dsimp only [List.set])
      | refine WR.aik hz rfl rfl rfl rfl (by first | with_reducible rfl | with_reducible assumption) (by omega) (by with_reducible assumption) ?_
      | refine WR.ai hz rfl rfl rfl rfl (by first | with_reducible rfl | with_reducible assumption) (by omega) ?_
      | refine WR.si hz rfl rfl rfl rfl (by first | with_reducible rfl | with_reducible assumption) (by omega) ?_
      | refine WR.az hz rfl rfl rfl rfl (by first | with_reducible rfl | with_reducible assumption) (by omega) ?_
      | refine WR.sz hz rfl rfl rfl rfl (by first | with_reducible rfl | with_reducible assumption) (by omega) (by decide) ?_
      | refine WR.pi hz rfl ?_
      | refine WR.rt rfl rfl rfl rfl ?_
      | refine WR.rz rfl rfl (by decide) ?_)
    · repeat' (first
      | (with_reducible refine WR.lt (by omega) (by omega) (fun _ => ?_) (fun _ => ?_) <;> try (exfalso; omega))
      | (with_reducible refine WR.le (by omega) (by omega) (fun _ => ?_) (fun _ => ?_) <;> try (exfalso; omega))
      | (with_reducible refine WR.eq (by omega) (by omega) (fun _ => ?_) (fun _ => ?_) <;> try (exfalso; omega))
      | (with_reducible refine WR.ne (by omega) (by omega) (fun _ => ?_) (fun _ => ?_) <;> try (exfalso; omega))
      | with_reducible refine WR.lt0 (by omega) ?_
      | with_reducible refine WR.ge0 (by omega) ?_
      | (with_reducible refine WR.bz (fun _ => ?_) (fun _ => ?_) <;> try contradiction)
      | (with_reducible refine WR.bn (fun _ => ?_) (fun _ => ?_) <;> try contradiction)
      | (with_reducible refine WR.br (fun _ => ?_) (fun _ => ?_) <;> try contradiction)
      | refine WR.gik hz rfl (by with_reducible assumption) ?_
      | refine WR.gi hz rfl ?_
      | refine WR.gr hz rfl rfl ?_
      | refine WR.addn rfl (by with_reducible rfl) (by with_reducible rfl) ?_
      | refine WR.muln rfl (by with_reducible rfl) (by with_reducible rfl) ?_
      | refine WR.subn rfl (by with_reducible rfl) (by with_reducible rfl) (by omega) ?_
      | (refine WR.incn rfl rfl ?_; dsimp only [List.set])
      | (refine WR.go rfl rfl ?_; try dsimp only [List.set])
      | refine WR.aik hz rfl rfl rfl rfl (by first | with_reducible rfl | with_reducible assumption) (by omega) (by with_reducible assumption) ?_
      | refine WR.ai hz rfl rfl rfl rfl (by first | with_reducible rfl | with_reducible assumption) (by omega) ?_
      | refine WR.si hz rfl rfl rfl rfl (by first | with_reducible rfl | with_reducible assumption) (by omega) ?_
      | refine WR.az hz rfl rfl rfl rfl (by first | with_reducible rfl | with_reducible assumption) (by omega) ?_
      | refine WR.sz hz rfl rfl rfl rfl (by first | with_reducible rfl | with_reducible assumption) (by omega) (by decide) ?_
      | refine WR.pi hz rfl ?_
      | refine WR.rt rfl rfl rfl rfl ?_
      | refine WR.rz rfl rfl (by decide) ?_)
      exact ⟨rfl, rfl⟩
    · rename_i h2
      have h3 : f_w I = 32 := (hx.resolve_left h).resolve_left h2
      repeat' (first
      | (with_reducible refine WR.lt (by omega) (by omega) (fun _ => ?_) (fun _ => ?_) <;> try (exfalso; omega))
      | (with_reducible refine WR.le (by omega) (by omega) (fun _ => ?_) (fun _ => ?_) <;> try (exfalso; omega))
      | (with_reducible refine WR.eq (by omega) (by omega) (fun _ => ?_) (fun _ => ?_) <;> try (exfalso; omega))
      | (with_reducible refine WR.ne (by omega) (by omega) (fun _ => ?_) (fun _ => ?_) <;> try (exfalso; omega))
      | with_reducible refine WR.lt0 (by omega) ?_
      | with_reducible refine WR.ge0 (by omega) ?_
      | (with_reducible refine WR.bz (fun _ => ?_) (fun _ => ?_) <;> try contradiction)
      | (with_reducible refine WR.bn (fun _ => ?_) (fun _ => ?_) <;> try contradiction)
      | (with_reducible refine WR.br (fun _ => ?_) (fun _ => ?_) <;> try contradiction)
      | refine WR.gik hz rfl (by with_reducible assumption) ?_
      | refine WR.gi hz rfl ?_
      | refine WR.gr hz rfl rfl ?_
      | refine WR.addn rfl (by with_reducible rfl) (by with_reducible rfl) ?_
      | refine WR.muln rfl (by with_reducible rfl) (by with_reducible rfl) ?_
      | refine WR.subn rfl (by with_reducible rfl) (by with_reducible rfl) (by omega) ?_
      | (refine WR.incn rfl rfl ?_; dsimp only [List.set])
      | (refine WR.go rfl rfl ?_; try dsimp only [List.set])
      | refine WR.aik hz rfl rfl rfl rfl (by first | with_reducible rfl | with_reducible assumption) (by omega) (by with_reducible assumption) ?_
      | refine WR.ai hz rfl rfl rfl rfl (by first | with_reducible rfl | with_reducible assumption) (by omega) ?_
      | refine WR.si hz rfl rfl rfl rfl (by first | with_reducible rfl | with_reducible assumption) (by omega) ?_
      | refine WR.az hz rfl rfl rfl rfl (by first | with_reducible rfl | with_reducible assumption) (by omega) ?_
      | refine WR.sz hz rfl rfl rfl rfl (by first | with_reducible rfl | with_reducible assumption) (by omega) (by decide) ?_
      | refine WR.pi hz rfl ?_
      | refine WR.rt rfl rfl rfl rfl ?_
      | refine WR.rz rfl rfl (by decide) ?_)
      exact ⟨rfl, rfl⟩
def f_crash (I : xI) (r : Nat) : xI := x_u (x_u (x_u (x_u I 74 7 (I 74 7 &&& (nI 1 <<< (nI r &&& 31) ^^^ -1))) 84 r (nI 0)) 83 r (I 82 r)) 87 r (nI 0)
set_option maxHeartbeats 1000000 in
theorem r_crash (d : Nat) (I : xI) {r : Nat} (hr : r < 5) (hu : f_bit (I 74 7) (nI r) = true) (hz : zok Z) : ER Z (d + 3) 129 I [.ref 74, .int (nI r)] (fun I' v => I' = f_crash I r ∧ v = some (.int (bI true))) := by
  refine ER.of (ls := [some (.ref 74), some (.int (nI r))]) rfl rfl ?_
  iterate 2 (first
      | (with_reducible refine WR.lt (by omega) (by omega) (fun _ => ?_) (fun _ => ?_) <;> try (exfalso; omega))
      | (with_reducible refine WR.le (by omega) (by omega) (fun _ => ?_) (fun _ => ?_) <;> try (exfalso; omega))
      | (with_reducible refine WR.eq (by omega) (by omega) (fun _ => ?_) (fun _ => ?_) <;> try (exfalso; omega))
      | (with_reducible refine WR.ne (by omega) (by omega) (fun _ => ?_) (fun _ => ?_) <;> try (exfalso; omega))
      | with_reducible refine WR.lt0 (by omega) ?_
      | with_reducible refine WR.ge0 (by omega) ?_
      | (with_reducible refine WR.bz (fun _ => ?_) (fun _ => ?_) <;> try contradiction)
      | (with_reducible refine WR.bn (fun _ => ?_) (fun _ => ?_) <;> try contradiction)
      | (with_reducible refine WR.br (fun _ => ?_) (fun _ => ?_) <;> try contradiction)
      | refine WR.gik hz rfl (by with_reducible assumption) ?_
      | refine WR.gi hz rfl ?_
      | refine WR.gr hz rfl rfl ?_
      | refine WR.addn rfl (by with_reducible rfl) (by with_reducible rfl) ?_
      | refine WR.muln rfl (by with_reducible rfl) (by with_reducible rfl) ?_
      | refine WR.subn rfl (by with_reducible rfl) (by with_reducible rfl) (by omega) ?_
      | (refine WR.incn rfl rfl ?_; dsimp only [List.set])
      | (refine WR.go rfl rfl ?_; try dsimp only [List.set])
      | refine WR.aik hz rfl rfl rfl rfl (by first | with_reducible rfl | with_reducible assumption) (by omega) (by with_reducible assumption) ?_
      | refine WR.ai hz rfl rfl rfl rfl (by first | with_reducible rfl | with_reducible assumption) (by omega) ?_
      | refine WR.si hz rfl rfl rfl rfl (by first | with_reducible rfl | with_reducible assumption) (by omega) ?_
      | refine WR.az hz rfl rfl rfl rfl (by first | with_reducible rfl | with_reducible assumption) (by omega) ?_
      | refine WR.sz hz rfl rfl rfl rfl (by first | with_reducible rfl | with_reducible assumption) (by omega) (by decide) ?_
      | refine WR.pi hz rfl ?_
      | refine WR.rt rfl rfl rfl rfl ?_
      | refine WR.rz rfl rfl (by decide) ?_)
  refine WR.V1i hz rfl rfl (r_isUp d I (nI r) hz) ?_
  rw [f_rep_n hr, hu]
  repeat' (first
      | (with_reducible refine WR.lt (by omega) (by omega) (fun _ => ?_) (fun _ => ?_) <;> try (exfalso; omega))
      | (with_reducible refine WR.le (by omega) (by omega) (fun _ => ?_) (fun _ => ?_) <;> try (exfalso; omega))
      | (with_reducible refine WR.eq (by omega) (by omega) (fun _ => ?_) (fun _ => ?_) <;> try (exfalso; omega))
      | (with_reducible refine WR.ne (by omega) (by omega) (fun _ => ?_) (fun _ => ?_) <;> try (exfalso; omega))
      | with_reducible refine WR.lt0 (by omega) ?_
      | with_reducible refine WR.ge0 (by omega) ?_
      | (with_reducible refine WR.bz (fun _ => ?_) (fun _ => ?_) <;> try contradiction)
      | (with_reducible refine WR.bn (fun _ => ?_) (fun _ => ?_) <;> try contradiction)
      | (with_reducible refine WR.br (fun _ => ?_) (fun _ => ?_) <;> try contradiction)
      | refine WR.gik hz rfl (by with_reducible assumption) ?_
      | refine WR.gi hz rfl ?_
      | refine WR.gr hz rfl rfl ?_
      | refine WR.addn rfl (by with_reducible rfl) (by with_reducible rfl) ?_
      | refine WR.muln rfl (by with_reducible rfl) (by with_reducible rfl) ?_
      | refine WR.subn rfl (by with_reducible rfl) (by with_reducible rfl) (by omega) ?_
      | (refine WR.incn rfl rfl ?_; dsimp only [List.set])
      | (refine WR.go rfl rfl ?_; try dsimp only [List.set])
      | refine WR.aik hz rfl rfl rfl rfl (by first | with_reducible rfl | with_reducible assumption) (by omega) (by with_reducible assumption) ?_
      | refine WR.ai hz rfl rfl rfl rfl (by first | with_reducible rfl | with_reducible assumption) (by omega) ?_
      | refine WR.si hz rfl rfl rfl rfl (by first | with_reducible rfl | with_reducible assumption) (by omega) ?_
      | refine WR.az hz rfl rfl rfl rfl (by first | with_reducible rfl | with_reducible assumption) (by omega) ?_
      | refine WR.sz hz rfl rfl rfl rfl (by first | with_reducible rfl | with_reducible assumption) (by omega) (by decide) ?_
      | refine WR.pi hz rfl ?_
      | refine WR.rt rfl rfl rfl rfl ?_
      | refine WR.rz rfl rfl (by decide) ?_)
  refine ⟨?_, rfl⟩
  simp [f_crash, x_u]
set_option maxHeartbeats 1000000 in
theorem r_crash_n (d : Nat) (I : xI) {x : Int32} (hu : (f_rep x && f_bit (I 74 7) x) = false) (hz : zok Z) : ER Z (d + 3) 129 I [.ref 74, .int x] (fun I' v => I' = I ∧ v = some (.int (bI false))) := by
  refine ER.of (ls := [some (.ref 74), some (.int x)]) rfl rfl ?_
  iterate 2 (first
      | (with_reducible refine WR.lt (by omega) (by omega) (fun _ => ?_) (fun _ => ?_) <;> try (exfalso; omega))
      | (with_reducible refine WR.le (by omega) (by omega) (fun _ => ?_) (fun _ => ?_) <;> try (exfalso; omega))
      | (with_reducible refine WR.eq (by omega) (by omega) (fun _ => ?_) (fun _ => ?_) <;> try (exfalso; omega))
      | (with_reducible refine WR.ne (by omega) (by omega) (fun _ => ?_) (fun _ => ?_) <;> try (exfalso; omega))
      | with_reducible refine WR.lt0 (by omega) ?_
      | with_reducible refine WR.ge0 (by omega) ?_
      | (with_reducible refine WR.bz (fun _ => ?_) (fun _ => ?_) <;> try contradiction)
      | (with_reducible refine WR.bn (fun _ => ?_) (fun _ => ?_) <;> try contradiction)
      | (with_reducible refine WR.br (fun _ => ?_) (fun _ => ?_) <;> try contradiction)
      | refine WR.gik hz rfl (by with_reducible assumption) ?_
      | refine WR.gi hz rfl ?_
      | refine WR.gr hz rfl rfl ?_
      | refine WR.addn rfl (by with_reducible rfl) (by with_reducible rfl) ?_
      | refine WR.muln rfl (by with_reducible rfl) (by with_reducible rfl) ?_
      | refine WR.subn rfl (by with_reducible rfl) (by with_reducible rfl) (by omega) ?_
      | (refine WR.incn rfl rfl ?_; dsimp only [List.set])
      | (refine WR.go rfl rfl ?_; try dsimp only [List.set])
      | refine WR.aik hz rfl rfl rfl rfl (by first | with_reducible rfl | with_reducible assumption) (by omega) (by with_reducible assumption) ?_
      | refine WR.ai hz rfl rfl rfl rfl (by first | with_reducible rfl | with_reducible assumption) (by omega) ?_
      | refine WR.si hz rfl rfl rfl rfl (by first | with_reducible rfl | with_reducible assumption) (by omega) ?_
      | refine WR.az hz rfl rfl rfl rfl (by first | with_reducible rfl | with_reducible assumption) (by omega) ?_
      | refine WR.sz hz rfl rfl rfl rfl (by first | with_reducible rfl | with_reducible assumption) (by omega) (by decide) ?_
      | refine WR.pi hz rfl ?_
      | refine WR.rt rfl rfl rfl rfl ?_
      | refine WR.rz rfl rfl (by decide) ?_)
  refine WR.V1i hz rfl rfl (r_isUp d I x hz) ?_
  rw [hu]
  repeat' (first
      | (with_reducible refine WR.lt (by omega) (by omega) (fun _ => ?_) (fun _ => ?_) <;> try (exfalso; omega))
      | (with_reducible refine WR.le (by omega) (by omega) (fun _ => ?_) (fun _ => ?_) <;> try (exfalso; omega))
      | (with_reducible refine WR.eq (by omega) (by omega) (fun _ => ?_) (fun _ => ?_) <;> try (exfalso; omega))
      | (with_reducible refine WR.ne (by omega) (by omega) (fun _ => ?_) (fun _ => ?_) <;> try (exfalso; omega))
      | with_reducible refine WR.lt0 (by omega) ?_
      | with_reducible refine WR.ge0 (by omega) ?_
      | (with_reducible refine WR.bz (fun _ => ?_) (fun _ => ?_) <;> try contradiction)
      | (with_reducible refine WR.bn (fun _ => ?_) (fun _ => ?_) <;> try contradiction)
      | (with_reducible refine WR.br (fun _ => ?_) (fun _ => ?_) <;> try contradiction)
      | refine WR.gik hz rfl (by with_reducible assumption) ?_
      | refine WR.gi hz rfl ?_
      | refine WR.gr hz rfl rfl ?_
      | refine WR.addn rfl (by with_reducible rfl) (by with_reducible rfl) ?_
      | refine WR.muln rfl (by with_reducible rfl) (by with_reducible rfl) ?_
      | refine WR.subn rfl (by with_reducible rfl) (by with_reducible rfl) (by omega) ?_
      | (refine WR.incn rfl rfl ?_; dsimp only [List.set])
      | (refine WR.go rfl rfl ?_; try dsimp only [List.set])
      | refine WR.aik hz rfl rfl rfl rfl (by first | with_reducible rfl | with_reducible assumption) (by omega) (by with_reducible assumption) ?_
      | refine WR.ai hz rfl rfl rfl rfl (by first | with_reducible rfl | with_reducible assumption) (by omega) ?_
      | refine WR.si hz rfl rfl rfl rfl (by first | with_reducible rfl | with_reducible assumption) (by omega) ?_
      | refine WR.az hz rfl rfl rfl rfl (by first | with_reducible rfl | with_reducible assumption) (by omega) ?_
      | refine WR.sz hz rfl rfl rfl rfl (by first | with_reducible rfl | with_reducible assumption) (by omega) (by decide) ?_
      | refine WR.pi hz rfl ?_
      | refine WR.rt rfl rfl rfl rfl ?_
      | refine WR.rz rfl rfl (by decide) ?_)
  exact ⟨rfl, rfl⟩
def f_rst (I : xI) (r : Nat) : xI := x_u I 74 7 (I 74 7 ||| (nI 1 <<< (nI r &&& 31)))
set_option maxHeartbeats 1000000 in
theorem r_restart (d : Nat) (I : xI) {r : Nat} (hr : r < 5) (hu : f_bit (I 74 7) (nI r) = false) (hz : zok Z) : ER Z (d + 3) 130 I [.ref 74, .int (nI r)] (fun I' v => I' = f_rst I r ∧ v = some (.int (bI true))) := by
  refine ER.of (ls := [some (.ref 74), some (.int (nI r))]) rfl rfl ?_
  iterate 1 (first
      | (with_reducible refine WR.lt (by omega) (by omega) (fun _ => ?_) (fun _ => ?_) <;> try (exfalso; omega))
      | (with_reducible refine WR.le (by omega) (by omega) (fun _ => ?_) (fun _ => ?_) <;> try (exfalso; omega))
      | (with_reducible refine WR.eq (by omega) (by omega) (fun _ => ?_) (fun _ => ?_) <;> try (exfalso; omega))
      | (with_reducible refine WR.ne (by omega) (by omega) (fun _ => ?_) (fun _ => ?_) <;> try (exfalso; omega))
      | with_reducible refine WR.lt0 (by omega) ?_
      | with_reducible refine WR.ge0 (by omega) ?_
      | (with_reducible refine WR.bz (fun _ => ?_) (fun _ => ?_) <;> try contradiction)
      | (with_reducible refine WR.bn (fun _ => ?_) (fun _ => ?_) <;> try contradiction)
      | (with_reducible refine WR.br (fun _ => ?_) (fun _ => ?_) <;> try contradiction)
      | refine WR.gik hz rfl (by with_reducible assumption) ?_
      | refine WR.gi hz rfl ?_
      | refine WR.gr hz rfl rfl ?_
      | refine WR.addn rfl (by with_reducible rfl) (by with_reducible rfl) ?_
      | refine WR.muln rfl (by with_reducible rfl) (by with_reducible rfl) ?_
      | refine WR.subn rfl (by with_reducible rfl) (by with_reducible rfl) (by omega) ?_
      | (refine WR.incn rfl rfl ?_; dsimp only [List.set])
      | (refine WR.go rfl rfl ?_; try dsimp only [List.set])
      | refine WR.aik hz rfl rfl rfl rfl (by first | with_reducible rfl | with_reducible assumption) (by omega) (by with_reducible assumption) ?_
      | refine WR.ai hz rfl rfl rfl rfl (by first | with_reducible rfl | with_reducible assumption) (by omega) ?_
      | refine WR.si hz rfl rfl rfl rfl (by first | with_reducible rfl | with_reducible assumption) (by omega) ?_
      | refine WR.az hz rfl rfl rfl rfl (by first | with_reducible rfl | with_reducible assumption) (by omega) ?_
      | refine WR.sz hz rfl rfl rfl rfl (by first | with_reducible rfl | with_reducible assumption) (by omega) (by decide) ?_
      | refine WR.pi hz rfl ?_
      | refine WR.rt rfl rfl rfl rfl ?_
      | refine WR.rz rfl rfl (by decide) ?_)
  refine WR.S1i rfl rfl (r_replica (d + 1) I (nI r) hz) ?_
  rw [f_rep_n hr]
  iterate 4 (first
      | (with_reducible refine WR.lt (by omega) (by omega) (fun _ => ?_) (fun _ => ?_) <;> try (exfalso; omega))
      | (with_reducible refine WR.le (by omega) (by omega) (fun _ => ?_) (fun _ => ?_) <;> try (exfalso; omega))
      | (with_reducible refine WR.eq (by omega) (by omega) (fun _ => ?_) (fun _ => ?_) <;> try (exfalso; omega))
      | (with_reducible refine WR.ne (by omega) (by omega) (fun _ => ?_) (fun _ => ?_) <;> try (exfalso; omega))
      | with_reducible refine WR.lt0 (by omega) ?_
      | with_reducible refine WR.ge0 (by omega) ?_
      | (with_reducible refine WR.bz (fun _ => ?_) (fun _ => ?_) <;> try contradiction)
      | (with_reducible refine WR.bn (fun _ => ?_) (fun _ => ?_) <;> try contradiction)
      | (with_reducible refine WR.br (fun _ => ?_) (fun _ => ?_) <;> try contradiction)
      | refine WR.gik hz rfl (by with_reducible assumption) ?_
      | refine WR.gi hz rfl ?_
      | refine WR.gr hz rfl rfl ?_
      | refine WR.addn rfl (by with_reducible rfl) (by with_reducible rfl) ?_
      | refine WR.muln rfl (by with_reducible rfl) (by with_reducible rfl) ?_
      | refine WR.subn rfl (by with_reducible rfl) (by with_reducible rfl) (by omega) ?_
      | (refine WR.incn rfl rfl ?_; dsimp only [List.set])
      | (refine WR.go rfl rfl ?_; try dsimp only [List.set])
      | refine WR.aik hz rfl rfl rfl rfl (by first | with_reducible rfl | with_reducible assumption) (by omega) (by with_reducible assumption) ?_
      | refine WR.ai hz rfl rfl rfl rfl (by first | with_reducible rfl | with_reducible assumption) (by omega) ?_
      | refine WR.si hz rfl rfl rfl rfl (by first | with_reducible rfl | with_reducible assumption) (by omega) ?_
      | refine WR.az hz rfl rfl rfl rfl (by first | with_reducible rfl | with_reducible assumption) (by omega) ?_
      | refine WR.sz hz rfl rfl rfl rfl (by first | with_reducible rfl | with_reducible assumption) (by omega) (by decide) ?_
      | refine WR.pi hz rfl ?_
      | refine WR.rt rfl rfl rfl rfl ?_
      | refine WR.rz rfl rfl (by decide) ?_)
  refine WR.V1i hz rfl rfl (r_isUp d I (nI r) hz) ?_
  rw [f_rep_n hr, hu]
  repeat' (first
      | (with_reducible refine WR.lt (by omega) (by omega) (fun _ => ?_) (fun _ => ?_) <;> try (exfalso; omega))
      | (with_reducible refine WR.le (by omega) (by omega) (fun _ => ?_) (fun _ => ?_) <;> try (exfalso; omega))
      | (with_reducible refine WR.eq (by omega) (by omega) (fun _ => ?_) (fun _ => ?_) <;> try (exfalso; omega))
      | (with_reducible refine WR.ne (by omega) (by omega) (fun _ => ?_) (fun _ => ?_) <;> try (exfalso; omega))
      | with_reducible refine WR.lt0 (by omega) ?_
      | with_reducible refine WR.ge0 (by omega) ?_
      | (with_reducible refine WR.bz (fun _ => ?_) (fun _ => ?_) <;> try contradiction)
      | (with_reducible refine WR.bn (fun _ => ?_) (fun _ => ?_) <;> try contradiction)
      | (with_reducible refine WR.br (fun _ => ?_) (fun _ => ?_) <;> try contradiction)
      | refine WR.gik hz rfl (by with_reducible assumption) ?_
      | refine WR.gi hz rfl ?_
      | refine WR.gr hz rfl rfl ?_
      | refine WR.addn rfl (by with_reducible rfl) (by with_reducible rfl) ?_
      | refine WR.muln rfl (by with_reducible rfl) (by with_reducible rfl) ?_
      | refine WR.subn rfl (by with_reducible rfl) (by with_reducible rfl) (by omega) ?_
      | (refine WR.incn rfl rfl ?_; dsimp only [List.set])
      | (refine WR.go rfl rfl ?_; try dsimp only [List.set])
      | refine WR.aik hz rfl rfl rfl rfl (by first | with_reducible rfl | with_reducible assumption) (by omega) (by with_reducible assumption) ?_
      | refine WR.ai hz rfl rfl rfl rfl (by first | with_reducible rfl | with_reducible assumption) (by omega) ?_
      | refine WR.si hz rfl rfl rfl rfl (by first | with_reducible rfl | with_reducible assumption) (by omega) ?_
      | refine WR.az hz rfl rfl rfl rfl (by first | with_reducible rfl | with_reducible assumption) (by omega) ?_
      | refine WR.sz hz rfl rfl rfl rfl (by first | with_reducible rfl | with_reducible assumption) (by omega) (by decide) ?_
      | refine WR.pi hz rfl ?_
      | refine WR.rt rfl rfl rfl rfl ?_
      | refine WR.rz rfl rfl (by decide) ?_)
  exact ⟨rfl, rfl⟩
set_option maxHeartbeats 1000000 in
theorem r_restart_n (d : Nat) (I : xI) {x : Int32} (hu : f_rep x = false ∨ f_bit (I 74 7) x = true) (hz : zok Z) : ER Z (d + 3) 130 I [.ref 74, .int x] (fun I' v => I' = I ∧ v = some (.int (bI false))) := by
  refine ER.of (ls := [some (.ref 74), some (.int x)]) rfl rfl ?_
  iterate 1 (first
      | (with_reducible refine WR.lt (by omega) (by omega) (fun _ => ?_) (fun _ => ?_) <;> try (exfalso; omega))
      | (with_reducible refine WR.le (by omega) (by omega) (fun _ => ?_) (fun _ => ?_) <;> try (exfalso; omega))
      | (with_reducible refine WR.eq (by omega) (by omega) (fun _ => ?_) (fun _ => ?_) <;> try (exfalso; omega))
      | (with_reducible refine WR.ne (by omega) (by omega) (fun _ => ?_) (fun _ => ?_) <;> try (exfalso; omega))
      | with_reducible refine WR.lt0 (by omega) ?_
      | with_reducible refine WR.ge0 (by omega) ?_
      | (with_reducible refine WR.bz (fun _ => ?_) (fun _ => ?_) <;> try contradiction)
      | (with_reducible refine WR.bn (fun _ => ?_) (fun _ => ?_) <;> try contradiction)
      | (with_reducible refine WR.br (fun _ => ?_) (fun _ => ?_) <;> try contradiction)
      | refine WR.gik hz rfl (by with_reducible assumption) ?_
      | refine WR.gi hz rfl ?_
      | refine WR.gr hz rfl rfl ?_
      | refine WR.addn rfl (by with_reducible rfl) (by with_reducible rfl) ?_
      | refine WR.muln rfl (by with_reducible rfl) (by with_reducible rfl) ?_
      | refine WR.subn rfl (by with_reducible rfl) (by with_reducible rfl) (by omega) ?_
      | (refine WR.incn rfl rfl ?_; dsimp only [List.set])
      | (refine WR.go rfl rfl ?_; try dsimp only [List.set])
      | refine WR.aik hz rfl rfl rfl rfl (by first | with_reducible rfl | with_reducible assumption) (by omega) (by with_reducible assumption) ?_
      | refine WR.ai hz rfl rfl rfl rfl (by first | with_reducible rfl | with_reducible assumption) (by omega) ?_
      | refine WR.si hz rfl rfl rfl rfl (by first | with_reducible rfl | with_reducible assumption) (by omega) ?_
      | refine WR.az hz rfl rfl rfl rfl (by first | with_reducible rfl | with_reducible assumption) (by omega) ?_
      | refine WR.sz hz rfl rfl rfl rfl (by first | with_reducible rfl | with_reducible assumption) (by omega) (by decide) ?_
      | refine WR.pi hz rfl ?_
      | refine WR.rt rfl rfl rfl rfl ?_
      | refine WR.rz rfl rfl (by decide) ?_)
  refine WR.S1i rfl rfl (r_replica (d + 1) I x hz) ?_
  iterate 2 (first
      | (with_reducible refine WR.lt (by omega) (by omega) (fun _ => ?_) (fun _ => ?_) <;> try (exfalso; omega))
      | (with_reducible refine WR.le (by omega) (by omega) (fun _ => ?_) (fun _ => ?_) <;> try (exfalso; omega))
      | (with_reducible refine WR.eq (by omega) (by omega) (fun _ => ?_) (fun _ => ?_) <;> try (exfalso; omega))
      | (with_reducible refine WR.ne (by omega) (by omega) (fun _ => ?_) (fun _ => ?_) <;> try (exfalso; omega))
      | with_reducible refine WR.lt0 (by omega) ?_
      | with_reducible refine WR.ge0 (by omega) ?_
      | (with_reducible refine WR.bz (fun _ => ?_) (fun _ => ?_) <;> try contradiction)
      | (with_reducible refine WR.bn (fun _ => ?_) (fun _ => ?_) <;> try contradiction)
      | (with_reducible refine WR.br (fun _ => ?_) (fun _ => ?_) <;> try contradiction)
      | refine WR.gik hz rfl (by with_reducible assumption) ?_
      | refine WR.gi hz rfl ?_
      | refine WR.gr hz rfl rfl ?_
      | refine WR.addn rfl (by with_reducible rfl) (by with_reducible rfl) ?_
      | refine WR.muln rfl (by with_reducible rfl) (by with_reducible rfl) ?_
      | refine WR.subn rfl (by with_reducible rfl) (by with_reducible rfl) (by omega) ?_
      | (refine WR.incn rfl rfl ?_; dsimp only [List.set])
      | (refine WR.go rfl rfl ?_; try dsimp only [List.set])
      | refine WR.aik hz rfl rfl rfl rfl (by first | with_reducible rfl | with_reducible assumption) (by omega) (by with_reducible assumption) ?_
      | refine WR.ai hz rfl rfl rfl rfl (by first | with_reducible rfl | with_reducible assumption) (by omega) ?_
      | refine WR.si hz rfl rfl rfl rfl (by first | with_reducible rfl | with_reducible assumption) (by omega) ?_
      | refine WR.az hz rfl rfl rfl rfl (by first | with_reducible rfl | with_reducible assumption) (by omega) ?_
      | refine WR.sz hz rfl rfl rfl rfl (by first | with_reducible rfl | with_reducible assumption) (by omega) (by decide) ?_
      | refine WR.pi hz rfl ?_
      | refine WR.rt rfl rfl rfl rfl ?_
      | refine WR.rz rfl rfl (by decide) ?_)
  · repeat' (first
      | (with_reducible refine WR.lt (by omega) (by omega) (fun _ => ?_) (fun _ => ?_) <;> try (exfalso; omega))
      | (with_reducible refine WR.le (by omega) (by omega) (fun _ => ?_) (fun _ => ?_) <;> try (exfalso; omega))
      | (with_reducible refine WR.eq (by omega) (by omega) (fun _ => ?_) (fun _ => ?_) <;> try (exfalso; omega))
      | (with_reducible refine WR.ne (by omega) (by omega) (fun _ => ?_) (fun _ => ?_) <;> try (exfalso; omega))
      | with_reducible refine WR.lt0 (by omega) ?_
      | with_reducible refine WR.ge0 (by omega) ?_
      | (with_reducible refine WR.bz (fun _ => ?_) (fun _ => ?_) <;> try contradiction)
      | (with_reducible refine WR.bn (fun _ => ?_) (fun _ => ?_) <;> try contradiction)
      | (with_reducible refine WR.br (fun _ => ?_) (fun _ => ?_) <;> try contradiction)
      | refine WR.gik hz rfl (by with_reducible assumption) ?_
      | refine WR.gi hz rfl ?_
      | refine WR.gr hz rfl rfl ?_
      | refine WR.addn rfl (by with_reducible rfl) (by with_reducible rfl) ?_
      | refine WR.muln rfl (by with_reducible rfl) (by with_reducible rfl) ?_
      | refine WR.subn rfl (by with_reducible rfl) (by with_reducible rfl) (by omega) ?_
      | (refine WR.incn rfl rfl ?_; dsimp only [List.set])
      | (refine WR.go rfl rfl ?_; try dsimp only [List.set])
      | refine WR.aik hz rfl rfl rfl rfl (by first | with_reducible rfl | with_reducible assumption) (by omega) (by with_reducible assumption) ?_
      | refine WR.ai hz rfl rfl rfl rfl (by first | with_reducible rfl | with_reducible assumption) (by omega) ?_
      | refine WR.si hz rfl rfl rfl rfl (by first | with_reducible rfl | with_reducible assumption) (by omega) ?_
      | refine WR.az hz rfl rfl rfl rfl (by first | with_reducible rfl | with_reducible assumption) (by omega) ?_
      | refine WR.sz hz rfl rfl rfl rfl (by first | with_reducible rfl | with_reducible assumption) (by omega) (by decide) ?_
      | refine WR.pi hz rfl ?_
      | refine WR.rt rfl rfl rfl rfl ?_
      | refine WR.rz rfl rfl (by decide) ?_)
    exact ⟨rfl, rfl⟩
  · rename_i h
    iterate 2 (first
      | (with_reducible refine WR.lt (by omega) (by omega) (fun _ => ?_) (fun _ => ?_) <;> try (exfalso; omega))
      | (with_reducible refine WR.le (by omega) (by omega) (fun _ => ?_) (fun _ => ?_) <;> try (exfalso; omega))
      | (with_reducible refine WR.eq (by omega) (by omega) (fun _ => ?_) (fun _ => ?_) <;> try (exfalso; omega))
      | (with_reducible refine WR.ne (by omega) (by omega) (fun _ => ?_) (fun _ => ?_) <;> try (exfalso; omega))
      | with_reducible refine WR.lt0 (by omega) ?_
      | with_reducible refine WR.ge0 (by omega) ?_
      | (with_reducible refine WR.bz (fun _ => ?_) (fun _ => ?_) <;> try contradiction)
      | (with_reducible refine WR.bn (fun _ => ?_) (fun _ => ?_) <;> try contradiction)
      | (with_reducible refine WR.br (fun _ => ?_) (fun _ => ?_) <;> try contradiction)
      | refine WR.gik hz rfl (by with_reducible assumption) ?_
      | refine WR.gi hz rfl ?_
      | refine WR.gr hz rfl rfl ?_
      | refine WR.addn rfl (by with_reducible rfl) (by with_reducible rfl) ?_
      | refine WR.muln rfl (by with_reducible rfl) (by with_reducible rfl) ?_
      | refine WR.subn rfl (by with_reducible rfl) (by with_reducible rfl) (by omega) ?_
      | (refine WR.incn rfl rfl ?_; dsimp only [List.set])
      | (refine WR.go rfl rfl ?_; try dsimp only [List.set])
      | refine WR.aik hz rfl rfl rfl rfl (by first | with_reducible rfl | with_reducible assumption) (by omega) (by with_reducible assumption) ?_
      | refine WR.ai hz rfl rfl rfl rfl (by first | with_reducible rfl | with_reducible assumption) (by omega) ?_
      | refine WR.si hz rfl rfl rfl rfl (by first | with_reducible rfl | with_reducible assumption) (by omega) ?_
      | refine WR.az hz rfl rfl rfl rfl (by first | with_reducible rfl | with_reducible assumption) (by omega) ?_
      | refine WR.sz hz rfl rfl rfl rfl (by first | with_reducible rfl | with_reducible assumption) (by omega) (by decide) ?_
      | refine WR.pi hz rfl ?_
      | refine WR.rt rfl rfl rfl rfl ?_
      | refine WR.rz rfl rfl (by decide) ?_)
    refine WR.V1i hz rfl rfl (r_isUp d I x hz) ?_
    rw [h, hu.resolve_left (by simp [h])]
    repeat' (first
      | (with_reducible refine WR.lt (by omega) (by omega) (fun _ => ?_) (fun _ => ?_) <;> try (exfalso; omega))
      | (with_reducible refine WR.le (by omega) (by omega) (fun _ => ?_) (fun _ => ?_) <;> try (exfalso; omega))
      | (with_reducible refine WR.eq (by omega) (by omega) (fun _ => ?_) (fun _ => ?_) <;> try (exfalso; omega))
      | (with_reducible refine WR.ne (by omega) (by omega) (fun _ => ?_) (fun _ => ?_) <;> try (exfalso; omega))
      | with_reducible refine WR.lt0 (by omega) ?_
      | with_reducible refine WR.ge0 (by omega) ?_
      | (with_reducible refine WR.bz (fun _ => ?_) (fun _ => ?_) <;> try contradiction)
      | (with_reducible refine WR.bn (fun _ => ?_) (fun _ => ?_) <;> try contradiction)
      | (with_reducible refine WR.br (fun _ => ?_) (fun _ => ?_) <;> try contradiction)
      | refine WR.gik hz rfl (by with_reducible assumption) ?_
      | refine WR.gi hz rfl ?_
      | refine WR.gr hz rfl rfl ?_
      | refine WR.addn rfl (by with_reducible rfl) (by with_reducible rfl) ?_
      | refine WR.muln rfl (by with_reducible rfl) (by with_reducible rfl) ?_
      | refine WR.subn rfl (by with_reducible rfl) (by with_reducible rfl) (by omega) ?_
      | (refine WR.incn rfl rfl ?_; dsimp only [List.set])
      | (refine WR.go rfl rfl ?_; try dsimp only [List.set])
      | refine WR.aik hz rfl rfl rfl rfl (by first | with_reducible rfl | with_reducible assumption) (by omega) (by with_reducible assumption) ?_
      | refine WR.ai hz rfl rfl rfl rfl (by first | with_reducible rfl | with_reducible assumption) (by omega) ?_
      | refine WR.si hz rfl rfl rfl rfl (by first | with_reducible rfl | with_reducible assumption) (by omega) ?_
      | refine WR.az hz rfl rfl rfl rfl (by first | with_reducible rfl | with_reducible assumption) (by omega) ?_
      | refine WR.sz hz rfl rfl rfl rfl (by first | with_reducible rfl | with_reducible assumption) (by omega) (by decide) ?_
      | refine WR.pi hz rfl ?_
      | refine WR.rt rfl rfl rfl rfl ?_
      | refine WR.rz rfl rfl (by decide) ?_)
    exact ⟨rfl, rfl⟩
def f_cut (I : xI) (r e : Nat) : xI × Int32 := f_fg (x_u I 82 r (nI e)) r e
set_option maxHeartbeats 1000000 in
theorem r_cut (d : Nat) (I : xI) {r e : Nat} (hr : r < 5) (hu : f_bit (I 74 7) (nI r) = true) (he : I 83 r = nI e) (he2 : e ≤ 24) (hz : zok Z) : ER Z (d + 3) 131 I [.ref 74, .int (nI r)] (fun I' v => I' = (f_cut I r e).1 ∧ v = some (.int (f_cut I r e).2)) := by
  refine ER.of (ls := [some (.ref 74), some (.int (nI r))]) rfl rfl ?_
  iterate 2 (first
      | (with_reducible refine WR.lt (by omega) (by omega) (fun _ => ?_) (fun _ => ?_) <;> try (exfalso; omega))
      | (with_reducible refine WR.le (by omega) (by omega) (fun _ => ?_) (fun _ => ?_) <;> try (exfalso; omega))
      | (with_reducible refine WR.eq (by omega) (by omega) (fun _ => ?_) (fun _ => ?_) <;> try (exfalso; omega))
      | (with_reducible refine WR.ne (by omega) (by omega) (fun _ => ?_) (fun _ => ?_) <;> try (exfalso; omega))
      | with_reducible refine WR.lt0 (by omega) ?_
      | with_reducible refine WR.ge0 (by omega) ?_
      | (with_reducible refine WR.bz (fun _ => ?_) (fun _ => ?_) <;> try contradiction)
      | (with_reducible refine WR.bn (fun _ => ?_) (fun _ => ?_) <;> try contradiction)
      | (with_reducible refine WR.br (fun _ => ?_) (fun _ => ?_) <;> try contradiction)
      | refine WR.gik hz rfl (by with_reducible assumption) ?_
      | refine WR.gi hz rfl ?_
      | refine WR.gr hz rfl rfl ?_
      | refine WR.addn rfl (by with_reducible rfl) (by with_reducible rfl) ?_
      | refine WR.muln rfl (by with_reducible rfl) (by with_reducible rfl) ?_
      | refine WR.subn rfl (by with_reducible rfl) (by with_reducible rfl) (by omega) ?_
      | (refine WR.incn rfl rfl ?_; dsimp only [List.set])
      | (refine WR.go rfl rfl ?_; try dsimp only [List.set])
      | refine WR.aik hz rfl rfl rfl rfl (by first | with_reducible rfl | with_reducible assumption) (by omega) (by with_reducible assumption) ?_
      | refine WR.ai hz rfl rfl rfl rfl (by first | with_reducible rfl | with_reducible assumption) (by omega) ?_
      | refine WR.si hz rfl rfl rfl rfl (by first | with_reducible rfl | with_reducible assumption) (by omega) ?_
      | refine WR.az hz rfl rfl rfl rfl (by first | with_reducible rfl | with_reducible assumption) (by omega) ?_
      | refine WR.sz hz rfl rfl rfl rfl (by first | with_reducible rfl | with_reducible assumption) (by omega) (by decide) ?_
      | refine WR.pi hz rfl ?_
      | refine WR.rt rfl rfl rfl rfl ?_
      | refine WR.rz rfl rfl (by decide) ?_)
  refine WR.V1i hz rfl rfl (r_isUp d I (nI r) hz) ?_
  rw [f_rep_n hr, hu]
  have h82 : x_u I 82 r (nI e) 82 r = nI e := x_u_eq _ _ _ _
  repeat' ((with_reducible fail_if_success show WR _ _ _ 30 _ _ _ _); (first
      | (with_reducible refine WR.lt (by omega) (by omega) (fun _ => ?_) (fun _ => ?_) <;> try (exfalso; omega))
      | (with_reducible refine WR.le (by omega) (by omega) (fun _ => ?_) (fun _ => ?_) <;> try (exfalso; omega))
      | (with_reducible refine WR.eq (by omega) (by omega) (fun _ => ?_) (fun _ => ?_) <;> try (exfalso; omega))
      | (with_reducible refine WR.ne (by omega) (by omega) (fun _ => ?_) (fun _ => ?_) <;> try (exfalso; omega))
      | with_reducible refine WR.lt0 (by omega) ?_
      | with_reducible refine WR.ge0 (by omega) ?_
      | (with_reducible refine WR.bz (fun _ => ?_) (fun _ => ?_) <;> try contradiction)
      | (with_reducible refine WR.bn (fun _ => ?_) (fun _ => ?_) <;> try contradiction)
      | (with_reducible refine WR.br (fun _ => ?_) (fun _ => ?_) <;> try contradiction)
      | refine WR.gik hz rfl (by with_reducible assumption) ?_
      | refine WR.gi hz rfl ?_
      | refine WR.gr hz rfl rfl ?_
      | refine WR.addn rfl (by with_reducible rfl) (by with_reducible rfl) ?_
      | refine WR.muln rfl (by with_reducible rfl) (by with_reducible rfl) ?_
      | refine WR.subn rfl (by with_reducible rfl) (by with_reducible rfl) (by omega) ?_
      | (refine WR.incn rfl rfl ?_; dsimp only [List.set])
      | (refine WR.go rfl rfl ?_; try dsimp only [List.set])
      | refine WR.aik hz rfl rfl rfl rfl (by first | with_reducible rfl | with_reducible assumption) (by omega) (by with_reducible assumption) ?_
      | refine WR.ai hz rfl rfl rfl rfl (by first | with_reducible rfl | with_reducible assumption) (by omega) ?_
      | refine WR.si hz rfl rfl rfl rfl (by first | with_reducible rfl | with_reducible assumption) (by omega) ?_
      | refine WR.az hz rfl rfl rfl rfl (by first | with_reducible rfl | with_reducible assumption) (by omega) ?_
      | refine WR.sz hz rfl rfl rfl rfl (by first | with_reducible rfl | with_reducible assumption) (by omega) (by decide) ?_
      | refine WR.pi hz rfl ?_
      | refine WR.rt rfl rfl rfl rfl ?_
      | refine WR.rz rfl rfl (by decide) ?_))
  refine WR.V2i hz rfl rfl (r_forget (d + 1) _ hr he2 hz) ?_
  repeat' (first
      | (with_reducible refine WR.lt (by omega) (by omega) (fun _ => ?_) (fun _ => ?_) <;> try (exfalso; omega))
      | (with_reducible refine WR.le (by omega) (by omega) (fun _ => ?_) (fun _ => ?_) <;> try (exfalso; omega))
      | (with_reducible refine WR.eq (by omega) (by omega) (fun _ => ?_) (fun _ => ?_) <;> try (exfalso; omega))
      | (with_reducible refine WR.ne (by omega) (by omega) (fun _ => ?_) (fun _ => ?_) <;> try (exfalso; omega))
      | with_reducible refine WR.lt0 (by omega) ?_
      | with_reducible refine WR.ge0 (by omega) ?_
      | (with_reducible refine WR.bz (fun _ => ?_) (fun _ => ?_) <;> try contradiction)
      | (with_reducible refine WR.bn (fun _ => ?_) (fun _ => ?_) <;> try contradiction)
      | (with_reducible refine WR.br (fun _ => ?_) (fun _ => ?_) <;> try contradiction)
      | refine WR.gik hz rfl (by with_reducible assumption) ?_
      | refine WR.gi hz rfl ?_
      | refine WR.gr hz rfl rfl ?_
      | refine WR.addn rfl (by with_reducible rfl) (by with_reducible rfl) ?_
      | refine WR.muln rfl (by with_reducible rfl) (by with_reducible rfl) ?_
      | refine WR.subn rfl (by with_reducible rfl) (by with_reducible rfl) (by omega) ?_
      | (refine WR.incn rfl rfl ?_; dsimp only [List.set])
      | (refine WR.go rfl rfl ?_; try dsimp only [List.set])
      | refine WR.aik hz rfl rfl rfl rfl (by first | with_reducible rfl | with_reducible assumption) (by omega) (by with_reducible assumption) ?_
      | refine WR.ai hz rfl rfl rfl rfl (by first | with_reducible rfl | with_reducible assumption) (by omega) ?_
      | refine WR.si hz rfl rfl rfl rfl (by first | with_reducible rfl | with_reducible assumption) (by omega) ?_
      | refine WR.az hz rfl rfl rfl rfl (by first | with_reducible rfl | with_reducible assumption) (by omega) ?_
      | refine WR.sz hz rfl rfl rfl rfl (by first | with_reducible rfl | with_reducible assumption) (by omega) (by decide) ?_
      | refine WR.pi hz rfl ?_
      | refine WR.rt rfl rfl rfl rfl ?_
      | refine WR.rz rfl rfl (by decide) ?_)
  exact ⟨rfl, rfl⟩
set_option maxHeartbeats 1000000 in
theorem r_cut_n (d : Nat) (I : xI) {x : Int32} (hu : (f_rep x && f_bit (I 74 7) x) = false) (hz : zok Z) : ER Z (d + 3) 131 I [.ref 74, .int x] (fun I' v => I' = I ∧ v = some (.int (-1))) := by
  refine ER.of (ls := [some (.ref 74), some (.int x)]) rfl rfl ?_
  iterate 2 (first
      | (with_reducible refine WR.lt (by omega) (by omega) (fun _ => ?_) (fun _ => ?_) <;> try (exfalso; omega))
      | (with_reducible refine WR.le (by omega) (by omega) (fun _ => ?_) (fun _ => ?_) <;> try (exfalso; omega))
      | (with_reducible refine WR.eq (by omega) (by omega) (fun _ => ?_) (fun _ => ?_) <;> try (exfalso; omega))
      | (with_reducible refine WR.ne (by omega) (by omega) (fun _ => ?_) (fun _ => ?_) <;> try (exfalso; omega))
      | with_reducible refine WR.lt0 (by omega) ?_
      | with_reducible refine WR.ge0 (by omega) ?_
      | (with_reducible refine WR.bz (fun _ => ?_) (fun _ => ?_) <;> try contradiction)
      | (with_reducible refine WR.bn (fun _ => ?_) (fun _ => ?_) <;> try contradiction)
      | (with_reducible refine WR.br (fun _ => ?_) (fun _ => ?_) <;> try contradiction)
      | refine WR.gik hz rfl (by with_reducible assumption) ?_
      | refine WR.gi hz rfl ?_
      | refine WR.gr hz rfl rfl ?_
      | refine WR.addn rfl (by with_reducible rfl) (by with_reducible rfl) ?_
      | refine WR.muln rfl (by with_reducible rfl) (by with_reducible rfl) ?_
      | refine WR.subn rfl (by with_reducible rfl) (by with_reducible rfl) (by omega) ?_
      | (refine WR.incn rfl rfl ?_; dsimp only [List.set])
      | (refine WR.go rfl rfl ?_; try dsimp only [List.set])
      | refine WR.aik hz rfl rfl rfl rfl (by first | with_reducible rfl | with_reducible assumption) (by omega) (by with_reducible assumption) ?_
      | refine WR.ai hz rfl rfl rfl rfl (by first | with_reducible rfl | with_reducible assumption) (by omega) ?_
      | refine WR.si hz rfl rfl rfl rfl (by first | with_reducible rfl | with_reducible assumption) (by omega) ?_
      | refine WR.az hz rfl rfl rfl rfl (by first | with_reducible rfl | with_reducible assumption) (by omega) ?_
      | refine WR.sz hz rfl rfl rfl rfl (by first | with_reducible rfl | with_reducible assumption) (by omega) (by decide) ?_
      | refine WR.pi hz rfl ?_
      | refine WR.rt rfl rfl rfl rfl ?_
      | refine WR.rz rfl rfl (by decide) ?_)
  refine WR.V1i hz rfl rfl (r_isUp d I x hz) ?_
  rw [hu]
  repeat' (first
      | (with_reducible refine WR.lt (by omega) (by omega) (fun _ => ?_) (fun _ => ?_) <;> try (exfalso; omega))
      | (with_reducible refine WR.le (by omega) (by omega) (fun _ => ?_) (fun _ => ?_) <;> try (exfalso; omega))
      | (with_reducible refine WR.eq (by omega) (by omega) (fun _ => ?_) (fun _ => ?_) <;> try (exfalso; omega))
      | (with_reducible refine WR.ne (by omega) (by omega) (fun _ => ?_) (fun _ => ?_) <;> try (exfalso; omega))
      | with_reducible refine WR.lt0 (by omega) ?_
      | with_reducible refine WR.ge0 (by omega) ?_
      | (with_reducible refine WR.bz (fun _ => ?_) (fun _ => ?_) <;> try contradiction)
      | (with_reducible refine WR.bn (fun _ => ?_) (fun _ => ?_) <;> try contradiction)
      | (with_reducible refine WR.br (fun _ => ?_) (fun _ => ?_) <;> try contradiction)
      | refine WR.gik hz rfl (by with_reducible assumption) ?_
      | refine WR.gi hz rfl ?_
      | refine WR.gr hz rfl rfl ?_
      | refine WR.addn rfl (by with_reducible rfl) (by with_reducible rfl) ?_
      | refine WR.muln rfl (by with_reducible rfl) (by with_reducible rfl) ?_
      | refine WR.subn rfl (by with_reducible rfl) (by with_reducible rfl) (by omega) ?_
      | (refine WR.incn rfl rfl ?_; dsimp only [List.set])
      | (refine WR.go rfl rfl ?_; try dsimp only [List.set])
      | refine WR.aik hz rfl rfl rfl rfl (by first | with_reducible rfl | with_reducible assumption) (by omega) (by with_reducible assumption) ?_
      | refine WR.ai hz rfl rfl rfl rfl (by first | with_reducible rfl | with_reducible assumption) (by omega) ?_
      | refine WR.si hz rfl rfl rfl rfl (by first | with_reducible rfl | with_reducible assumption) (by omega) ?_
      | refine WR.az hz rfl rfl rfl rfl (by first | with_reducible rfl | with_reducible assumption) (by omega) ?_
      | refine WR.sz hz rfl rfl rfl rfl (by first | with_reducible rfl | with_reducible assumption) (by omega) (by decide) ?_
      | refine WR.pi hz rfl ?_
      | refine WR.rt rfl rfl rfl rfl ?_
      | refine WR.rz rfl rfl (by decide) ?_)
  exact ⟨rfl, rfl⟩
set_option maxHeartbeats 1000000 in
theorem r_fetch (d : Nat) (I : xI) {r p : Nat} (hr : r < 5) (hu : f_bit (I 74 7) (nI r) = true) (hp : p < 5) (hrp : r ≠ p) (hw : f_wok I) (h32 : f_w I < 32) (hz : zok Z) : ER Z (d + 3) 132 I [.ref 74, .int (nI r), .int (nI p)] (fun I' v => I' = f_ml I (nI 7) r (nI p) (nI 0) (I 83 r) (nI 0) ∧ v = some (.int (bI true))) := by
  have hw1 := hw.1
  refine ER.of (ls := [some (.ref 74), some (.int (nI r)), some (.int (nI p))]) rfl rfl ?_
  iterate 2 (first
      | (with_reducible refine WR.lt (by omega) (by omega) (fun _ => ?_) (fun _ => ?_) <;> try (exfalso; omega))
      | (with_reducible refine WR.le (by omega) (by omega) (fun _ => ?_) (fun _ => ?_) <;> try (exfalso; omega))
      | (with_reducible refine WR.eq (by omega) (by omega) (fun _ => ?_) (fun _ => ?_) <;> try (exfalso; omega))
      | (with_reducible refine WR.ne (by omega) (by omega) (fun _ => ?_) (fun _ => ?_) <;> try (exfalso; omega))
      | with_reducible refine WR.lt0 (by omega) ?_
      | with_reducible refine WR.ge0 (by omega) ?_
      | (with_reducible refine WR.bz (fun _ => ?_) (fun _ => ?_) <;> try contradiction)
      | (with_reducible refine WR.bn (fun _ => ?_) (fun _ => ?_) <;> try contradiction)
      | (with_reducible refine WR.br (fun _ => ?_) (fun _ => ?_) <;> try contradiction)
      | refine WR.gik hz rfl (by with_reducible assumption) ?_
      | refine WR.gi hz rfl ?_
      | refine WR.gr hz rfl rfl ?_
      | refine WR.addn rfl (by with_reducible rfl) (by with_reducible rfl) ?_
      | refine WR.muln rfl (by with_reducible rfl) (by with_reducible rfl) ?_
      | refine WR.subn rfl (by with_reducible rfl) (by with_reducible rfl) (by omega) ?_
      | (refine WR.incn rfl rfl ?_; dsimp only [List.set])
      | (refine WR.go rfl rfl ?_; try dsimp only [List.set])
      | refine WR.aik hz rfl rfl rfl rfl (by first | with_reducible rfl | with_reducible assumption) (by omega) (by with_reducible assumption) ?_
      | refine WR.ai hz rfl rfl rfl rfl (by first | with_reducible rfl | with_reducible assumption) (by omega) ?_
      | refine WR.si hz rfl rfl rfl rfl (by first | with_reducible rfl | with_reducible assumption) (by omega) ?_
      | refine WR.az hz rfl rfl rfl rfl (by first | with_reducible rfl | with_reducible assumption) (by omega) ?_
      | refine WR.sz hz rfl rfl rfl rfl (by first | with_reducible rfl | with_reducible assumption) (by omega) (by decide) ?_
      | refine WR.pi hz rfl ?_
      | refine WR.rt rfl rfl rfl rfl ?_
      | refine WR.rz rfl rfl (by decide) ?_)
  refine WR.V1i hz rfl rfl (r_isUp d I (nI r) hz) ?_
  rw [f_rep_n hr, hu]
  repeat' ((with_reducible fail_if_success show WR _ _ _ 9 _ _ _ _); (first
      | (with_reducible refine WR.lt (by omega) (by omega) (fun _ => ?_) (fun _ => ?_) <;> try (exfalso; omega))
      | (with_reducible refine WR.le (by omega) (by omega) (fun _ => ?_) (fun _ => ?_) <;> try (exfalso; omega))
      | (with_reducible refine WR.eq (by omega) (by omega) (fun _ => ?_) (fun _ => ?_) <;> try (exfalso; omega))
      | (with_reducible refine WR.ne (by omega) (by omega) (fun _ => ?_) (fun _ => ?_) <;> try (exfalso; omega))
      | with_reducible refine WR.lt0 (by omega) ?_
      | with_reducible refine WR.ge0 (by omega) ?_
      | (with_reducible refine WR.bz (fun _ => ?_) (fun _ => ?_) <;> try contradiction)
      | (with_reducible refine WR.bn (fun _ => ?_) (fun _ => ?_) <;> try contradiction)
      | (with_reducible refine WR.br (fun _ => ?_) (fun _ => ?_) <;> try contradiction)
      | refine WR.gik hz rfl (by with_reducible assumption) ?_
      | refine WR.gi hz rfl ?_
      | refine WR.gr hz rfl rfl ?_
      | refine WR.addn rfl (by with_reducible rfl) (by with_reducible rfl) ?_
      | refine WR.muln rfl (by with_reducible rfl) (by with_reducible rfl) ?_
      | refine WR.subn rfl (by with_reducible rfl) (by with_reducible rfl) (by omega) ?_
      | (refine WR.incn rfl rfl ?_; dsimp only [List.set])
      | (refine WR.go rfl rfl ?_; try dsimp only [List.set])
      | refine WR.aik hz rfl rfl rfl rfl (by first | with_reducible rfl | with_reducible assumption) (by omega) (by with_reducible assumption) ?_
      | refine WR.ai hz rfl rfl rfl rfl (by first | with_reducible rfl | with_reducible assumption) (by omega) ?_
      | refine WR.si hz rfl rfl rfl rfl (by first | with_reducible rfl | with_reducible assumption) (by omega) ?_
      | refine WR.az hz rfl rfl rfl rfl (by first | with_reducible rfl | with_reducible assumption) (by omega) ?_
      | refine WR.sz hz rfl rfl rfl rfl (by first | with_reducible rfl | with_reducible assumption) (by omega) (by decide) ?_
      | refine WR.pi hz rfl ?_
      | refine WR.rt rfl rfl rfl rfl ?_
      | refine WR.rz rfl rfl (by decide) ?_))
  refine WR.S1i rfl rfl (r_replica (d + 1) I (nI p) hz) ?_
  rw [f_rep_n hp]
  repeat' ((with_reducible fail_if_success show WR _ _ _ 44 _ _ _ _); (first
      | (with_reducible refine WR.lt (by omega) (by omega) (fun _ => ?_) (fun _ => ?_) <;> try (exfalso; omega))
      | (with_reducible refine WR.le (by omega) (by omega) (fun _ => ?_) (fun _ => ?_) <;> try (exfalso; omega))
      | (with_reducible refine WR.eq (by omega) (by omega) (fun _ => ?_) (fun _ => ?_) <;> try (exfalso; omega))
      | (with_reducible refine WR.ne (by omega) (by omega) (fun _ => ?_) (fun _ => ?_) <;> try (exfalso; omega))
      | with_reducible refine WR.lt0 (by omega) ?_
      | with_reducible refine WR.ge0 (by omega) ?_
      | (with_reducible refine WR.bz (fun _ => ?_) (fun _ => ?_) <;> try contradiction)
      | (with_reducible refine WR.bn (fun _ => ?_) (fun _ => ?_) <;> try contradiction)
      | (with_reducible refine WR.br (fun _ => ?_) (fun _ => ?_) <;> try contradiction)
      | refine WR.gik hz rfl (by with_reducible assumption) ?_
      | refine WR.gi hz rfl ?_
      | refine WR.gr hz rfl rfl ?_
      | refine WR.addn rfl (by with_reducible rfl) (by with_reducible rfl) ?_
      | refine WR.muln rfl (by with_reducible rfl) (by with_reducible rfl) ?_
      | refine WR.subn rfl (by with_reducible rfl) (by with_reducible rfl) (by omega) ?_
      | (refine WR.incn rfl rfl ?_; dsimp only [List.set])
      | (refine WR.go rfl rfl ?_; try dsimp only [List.set])
      | refine WR.aik hz rfl rfl rfl rfl (by first | with_reducible rfl | with_reducible assumption) (by omega) (by with_reducible assumption) ?_
      | refine WR.ai hz rfl rfl rfl rfl (by first | with_reducible rfl | with_reducible assumption) (by omega) ?_
      | refine WR.si hz rfl rfl rfl rfl (by first | with_reducible rfl | with_reducible assumption) (by omega) ?_
      | refine WR.az hz rfl rfl rfl rfl (by first | with_reducible rfl | with_reducible assumption) (by omega) ?_
      | refine WR.sz hz rfl rfl rfl rfl (by first | with_reducible rfl | with_reducible assumption) (by omega) (by decide) ?_
      | refine WR.pi hz rfl ?_
      | refine WR.rt rfl rfl rfl rfl ?_
      | refine WR.rz rfl rfl (by decide) ?_))
  refine WR.V6v hz rfl rfl (r_mail (d + 1) I (nI 7) (nI p) (nI 0) (I 83 r) (nI 0) hr hw.1 hw.2 hz) ?_
  repeat' (first
      | (with_reducible refine WR.lt (by omega) (by omega) (fun _ => ?_) (fun _ => ?_) <;> try (exfalso; omega))
      | (with_reducible refine WR.le (by omega) (by omega) (fun _ => ?_) (fun _ => ?_) <;> try (exfalso; omega))
      | (with_reducible refine WR.eq (by omega) (by omega) (fun _ => ?_) (fun _ => ?_) <;> try (exfalso; omega))
      | (with_reducible refine WR.ne (by omega) (by omega) (fun _ => ?_) (fun _ => ?_) <;> try (exfalso; omega))
      | with_reducible refine WR.lt0 (by omega) ?_
      | with_reducible refine WR.ge0 (by omega) ?_
      | (with_reducible refine WR.bz (fun _ => ?_) (fun _ => ?_) <;> try contradiction)
      | (with_reducible refine WR.bn (fun _ => ?_) (fun _ => ?_) <;> try contradiction)
      | (with_reducible refine WR.br (fun _ => ?_) (fun _ => ?_) <;> try contradiction)
      | refine WR.gik hz rfl (by with_reducible assumption) ?_
      | refine WR.gi hz rfl ?_
      | refine WR.gr hz rfl rfl ?_
      | refine WR.addn rfl (by with_reducible rfl) (by with_reducible rfl) ?_
      | refine WR.muln rfl (by with_reducible rfl) (by with_reducible rfl) ?_
      | refine WR.subn rfl (by with_reducible rfl) (by with_reducible rfl) (by omega) ?_
      | (refine WR.incn rfl rfl ?_; dsimp only [List.set])
      | (refine WR.go rfl rfl ?_; try dsimp only [List.set])
      | refine WR.aik hz rfl rfl rfl rfl (by first | with_reducible rfl | with_reducible assumption) (by omega) (by with_reducible assumption) ?_
      | refine WR.ai hz rfl rfl rfl rfl (by first | with_reducible rfl | with_reducible assumption) (by omega) ?_
      | refine WR.si hz rfl rfl rfl rfl (by first | with_reducible rfl | with_reducible assumption) (by omega) ?_
      | refine WR.az hz rfl rfl rfl rfl (by first | with_reducible rfl | with_reducible assumption) (by omega) ?_
      | refine WR.sz hz rfl rfl rfl rfl (by first | with_reducible rfl | with_reducible assumption) (by omega) (by decide) ?_
      | refine WR.pi hz rfl ?_
      | refine WR.rt rfl rfl rfl rfl ?_
      | refine WR.rz rfl rfl (by decide) ?_)
  exact ⟨rfl, rfl⟩
set_option maxHeartbeats 1000000 in
theorem r_fetch_n (d : Nat) (I : xI) {x y : Int32} (hu : (f_rep x && f_bit (I 74 7) x) = false ∨ f_rep y = false ∨ x = y ∨ I 74 20 = nI 32) (hz : zok Z) : ER Z (d + 3) 132 I [.ref 74, .int x, .int y] (fun I' v => I' = I ∧ v = some (.int (bI false))) := by
  refine ER.of (ls := [some (.ref 74), some (.int x), some (.int y)]) rfl rfl ?_
  iterate 2 (first
      | (with_reducible refine WR.lt (by omega) (by omega) (fun _ => ?_) (fun _ => ?_) <;> try (exfalso; omega))
      | (with_reducible refine WR.le (by omega) (by omega) (fun _ => ?_) (fun _ => ?_) <;> try (exfalso; omega))
      | (with_reducible refine WR.eq (by omega) (by omega) (fun _ => ?_) (fun _ => ?_) <;> try (exfalso; omega))
      | (with_reducible refine WR.ne (by omega) (by omega) (fun _ => ?_) (fun _ => ?_) <;> try (exfalso; omega))
      | with_reducible refine WR.lt0 (by omega) ?_
      | with_reducible refine WR.ge0 (by omega) ?_
      | (with_reducible refine WR.bz (fun _ => ?_) (fun _ => ?_) <;> try contradiction)
      | (with_reducible refine WR.bn (fun _ => ?_) (fun _ => ?_) <;> try contradiction)
      | (with_reducible refine WR.br (fun _ => ?_) (fun _ => ?_) <;> try contradiction)
      | refine WR.gik hz rfl (by with_reducible assumption) ?_
      | refine WR.gi hz rfl ?_
      | refine WR.gr hz rfl rfl ?_
      | refine WR.addn rfl (by with_reducible rfl) (by with_reducible rfl) ?_
      | refine WR.muln rfl (by with_reducible rfl) (by with_reducible rfl) ?_
      | refine WR.subn rfl (by with_reducible rfl) (by with_reducible rfl) (by omega) ?_
      | (refine WR.incn rfl rfl ?_; dsimp only [List.set])
      | (refine WR.go rfl rfl ?_; try dsimp only [List.set])
      | refine WR.aik hz rfl rfl rfl rfl (by first | with_reducible rfl | with_reducible assumption) (by omega) (by with_reducible assumption) ?_
      | refine WR.ai hz rfl rfl rfl rfl (by first | with_reducible rfl | with_reducible assumption) (by omega) ?_
      | refine WR.si hz rfl rfl rfl rfl (by first | with_reducible rfl | with_reducible assumption) (by omega) ?_
      | refine WR.az hz rfl rfl rfl rfl (by first | with_reducible rfl | with_reducible assumption) (by omega) ?_
      | refine WR.sz hz rfl rfl rfl rfl (by first | with_reducible rfl | with_reducible assumption) (by omega) (by decide) ?_
      | refine WR.pi hz rfl ?_
      | refine WR.rt rfl rfl rfl rfl ?_
      | refine WR.rz rfl rfl (by decide) ?_)
  refine WR.V1i hz rfl rfl (r_isUp d I x hz) ?_
  iterate 2 (first
      | (with_reducible refine WR.lt (by omega) (by omega) (fun _ => ?_) (fun _ => ?_) <;> try (exfalso; omega))
      | (with_reducible refine WR.le (by omega) (by omega) (fun _ => ?_) (fun _ => ?_) <;> try (exfalso; omega))
      | (with_reducible refine WR.eq (by omega) (by omega) (fun _ => ?_) (fun _ => ?_) <;> try (exfalso; omega))
      | (with_reducible refine WR.ne (by omega) (by omega) (fun _ => ?_) (fun _ => ?_) <;> try (exfalso; omega))
      | with_reducible refine WR.lt0 (by omega) ?_
      | with_reducible refine WR.ge0 (by omega) ?_
      | (with_reducible refine WR.bz (fun _ => ?_) (fun _ => ?_) <;> try contradiction)
      | (with_reducible refine WR.bn (fun _ => ?_) (fun _ => ?_) <;> try contradiction)
      | (with_reducible refine WR.br (fun _ => ?_) (fun _ => ?_) <;> try contradiction)
      | refine WR.gik hz rfl (by with_reducible assumption) ?_
      | refine WR.gi hz rfl ?_
      | refine WR.gr hz rfl rfl ?_
      | refine WR.addn rfl (by with_reducible rfl) (by with_reducible rfl) ?_
      | refine WR.muln rfl (by with_reducible rfl) (by with_reducible rfl) ?_
      | refine WR.subn rfl (by with_reducible rfl) (by with_reducible rfl) (by omega) ?_
      | (refine WR.incn rfl rfl ?_; dsimp only [List.set])
      | (refine WR.go rfl rfl ?_; try dsimp only [List.set])
      | refine WR.aik hz rfl rfl rfl rfl (by first | with_reducible rfl | with_reducible assumption) (by omega) (by with_reducible assumption) ?_
      | refine WR.ai hz rfl rfl rfl rfl (by first | with_reducible rfl | with_reducible assumption) (by omega) ?_
      | refine WR.si hz rfl rfl rfl rfl (by first | with_reducible rfl | with_reducible assumption) (by omega) ?_
      | refine WR.az hz rfl rfl rfl rfl (by first | with_reducible rfl | with_reducible assumption) (by omega) ?_
      | refine WR.sz hz rfl rfl rfl rfl (by first | with_reducible rfl | with_reducible assumption) (by omega) (by decide) ?_
      | refine WR.pi hz rfl ?_
      | refine WR.rt rfl rfl rfl rfl ?_
      | refine WR.rz rfl rfl (by decide) ?_)
  · repeat' (first
      | (with_reducible refine WR.lt (by omega) (by omega) (fun _ => ?_) (fun _ => ?_) <;> try (exfalso; omega))
      | (with_reducible refine WR.le (by omega) (by omega) (fun _ => ?_) (fun _ => ?_) <;> try (exfalso; omega))
      | (with_reducible refine WR.eq (by omega) (by omega) (fun _ => ?_) (fun _ => ?_) <;> try (exfalso; omega))
      | (with_reducible refine WR.ne (by omega) (by omega) (fun _ => ?_) (fun _ => ?_) <;> try (exfalso; omega))
      | with_reducible refine WR.lt0 (by omega) ?_
      | with_reducible refine WR.ge0 (by omega) ?_
      | (with_reducible refine WR.bz (fun _ => ?_) (fun _ => ?_) <;> try contradiction)
      | (with_reducible refine WR.bn (fun _ => ?_) (fun _ => ?_) <;> try contradiction)
      | (with_reducible refine WR.br (fun _ => ?_) (fun _ => ?_) <;> try contradiction)
      | refine WR.gik hz rfl (by with_reducible assumption) ?_
      | refine WR.gi hz rfl ?_
      | refine WR.gr hz rfl rfl ?_
      | refine WR.addn rfl (by with_reducible rfl) (by with_reducible rfl) ?_
      | refine WR.muln rfl (by with_reducible rfl) (by with_reducible rfl) ?_
      | refine WR.subn rfl (by with_reducible rfl) (by with_reducible rfl) (by omega) ?_
      | (refine WR.incn rfl rfl ?_; dsimp only [List.set])
      | (refine WR.go rfl rfl ?_; try dsimp only [List.set])
      | refine WR.aik hz rfl rfl rfl rfl (by first | with_reducible rfl | with_reducible assumption) (by omega) (by with_reducible assumption) ?_
      | refine WR.ai hz rfl rfl rfl rfl (by first | with_reducible rfl | with_reducible assumption) (by omega) ?_
      | refine WR.si hz rfl rfl rfl rfl (by first | with_reducible rfl | with_reducible assumption) (by omega) ?_
      | refine WR.az hz rfl rfl rfl rfl (by first | with_reducible rfl | with_reducible assumption) (by omega) ?_
      | refine WR.sz hz rfl rfl rfl rfl (by first | with_reducible rfl | with_reducible assumption) (by omega) (by decide) ?_
      | refine WR.pi hz rfl ?_
      | refine WR.rt rfl rfl rfl rfl ?_
      | refine WR.rz rfl rfl (by decide) ?_)
    exact ⟨rfl, rfl⟩
  · rename_i h
    iterate 1 (first
      | (with_reducible refine WR.lt (by omega) (by omega) (fun _ => ?_) (fun _ => ?_) <;> try (exfalso; omega))
      | (with_reducible refine WR.le (by omega) (by omega) (fun _ => ?_) (fun _ => ?_) <;> try (exfalso; omega))
      | (with_reducible refine WR.eq (by omega) (by omega) (fun _ => ?_) (fun _ => ?_) <;> try (exfalso; omega))
      | (with_reducible refine WR.ne (by omega) (by omega) (fun _ => ?_) (fun _ => ?_) <;> try (exfalso; omega))
      | with_reducible refine WR.lt0 (by omega) ?_
      | with_reducible refine WR.ge0 (by omega) ?_
      | (with_reducible refine WR.bz (fun _ => ?_) (fun _ => ?_) <;> try contradiction)
      | (with_reducible refine WR.bn (fun _ => ?_) (fun _ => ?_) <;> try contradiction)
      | (with_reducible refine WR.br (fun _ => ?_) (fun _ => ?_) <;> try contradiction)
      | refine WR.gik hz rfl (by with_reducible assumption) ?_
      | refine WR.gi hz rfl ?_
      | refine WR.gr hz rfl rfl ?_
      | refine WR.addn rfl (by with_reducible rfl) (by with_reducible rfl) ?_
      | refine WR.muln rfl (by with_reducible rfl) (by with_reducible rfl) ?_
      | refine WR.subn rfl (by with_reducible rfl) (by with_reducible rfl) (by omega) ?_
      | (refine WR.incn rfl rfl ?_; dsimp only [List.set])
      | (refine WR.go rfl rfl ?_; try dsimp only [List.set])
      | refine WR.aik hz rfl rfl rfl rfl (by first | with_reducible rfl | with_reducible assumption) (by omega) (by with_reducible assumption) ?_
      | refine WR.ai hz rfl rfl rfl rfl (by first | with_reducible rfl | with_reducible assumption) (by omega) ?_
      | refine WR.si hz rfl rfl rfl rfl (by first | with_reducible rfl | with_reducible assumption) (by omega) ?_
      | refine WR.az hz rfl rfl rfl rfl (by first | with_reducible rfl | with_reducible assumption) (by omega) ?_
      | refine WR.sz hz rfl rfl rfl rfl (by first | with_reducible rfl | with_reducible assumption) (by omega) (by decide) ?_
      | refine WR.pi hz rfl ?_
      | refine WR.rt rfl rfl rfl rfl ?_
      | refine WR.rz rfl rfl (by decide) ?_)
    refine WR.S1i rfl rfl (r_replica (d + 1) I y hz) ?_
    iterate 2 (first
      | (with_reducible refine WR.lt (by omega) (by omega) (fun _ => ?_) (fun _ => ?_) <;> try (exfalso; omega))
      | (with_reducible refine WR.le (by omega) (by omega) (fun _ => ?_) (fun _ => ?_) <;> try (exfalso; omega))
      | (with_reducible refine WR.eq (by omega) (by omega) (fun _ => ?_) (fun _ => ?_) <;> try (exfalso; omega))
      | (with_reducible refine WR.ne (by omega) (by omega) (fun _ => ?_) (fun _ => ?_) <;> try (exfalso; omega))
      | with_reducible refine WR.lt0 (by omega) ?_
      | with_reducible refine WR.ge0 (by omega) ?_
      | (with_reducible refine WR.bz (fun _ => ?_) (fun _ => ?_) <;> try contradiction)
      | (with_reducible refine WR.bn (fun _ => ?_) (fun _ => ?_) <;> try contradiction)
      | (with_reducible refine WR.br (fun _ => ?_) (fun _ => ?_) <;> try contradiction)
      | refine WR.gik hz rfl (by with_reducible assumption) ?_
      | refine WR.gi hz rfl ?_
      | refine WR.gr hz rfl rfl ?_
      | refine WR.addn rfl (by with_reducible rfl) (by with_reducible rfl) ?_
      | refine WR.muln rfl (by with_reducible rfl) (by with_reducible rfl) ?_
      | refine WR.subn rfl (by with_reducible rfl) (by with_reducible rfl) (by omega) ?_
      | (refine WR.incn rfl rfl ?_; dsimp only [List.set])
      | (refine WR.go rfl rfl ?_; try dsimp only [List.set])
      | refine WR.aik hz rfl rfl rfl rfl (by first | with_reducible rfl | with_reducible assumption) (by omega) (by with_reducible assumption) ?_
      | refine WR.ai hz rfl rfl rfl rfl (by first | with_reducible rfl | with_reducible assumption) (by omega) ?_
      | refine WR.si hz rfl rfl rfl rfl (by first | with_reducible rfl | with_reducible assumption) (by omega) ?_
      | refine WR.az hz rfl rfl rfl rfl (by first | with_reducible rfl | with_reducible assumption) (by omega) ?_
      | refine WR.sz hz rfl rfl rfl rfl (by first | with_reducible rfl | with_reducible assumption) (by omega) (by decide) ?_
      | refine WR.pi hz rfl ?_
      | refine WR.rt rfl rfl rfl rfl ?_
      | refine WR.rz rfl rfl (by decide) ?_)
    · repeat' (first
      | (with_reducible refine WR.lt (by omega) (by omega) (fun _ => ?_) (fun _ => ?_) <;> try (exfalso; omega))
      | (with_reducible refine WR.le (by omega) (by omega) (fun _ => ?_) (fun _ => ?_) <;> try (exfalso; omega))
      | (with_reducible refine WR.eq (by omega) (by omega) (fun _ => ?_) (fun _ => ?_) <;> try (exfalso; omega))
      | (with_reducible refine WR.ne (by omega) (by omega) (fun _ => ?_) (fun _ => ?_) <;> try (exfalso; omega))
      | with_reducible refine WR.lt0 (by omega) ?_
      | with_reducible refine WR.ge0 (by omega) ?_
      | (with_reducible refine WR.bz (fun _ => ?_) (fun _ => ?_) <;> try contradiction)
      | (with_reducible refine WR.bn (fun _ => ?_) (fun _ => ?_) <;> try contradiction)
      | (with_reducible refine WR.br (fun _ => ?_) (fun _ => ?_) <;> try contradiction)
      | refine WR.gik hz rfl (by with_reducible assumption) ?_
      | refine WR.gi hz rfl ?_
      | refine WR.gr hz rfl rfl ?_
      | refine WR.addn rfl (by with_reducible rfl) (by with_reducible rfl) ?_
      | refine WR.muln rfl (by with_reducible rfl) (by with_reducible rfl) ?_
      | refine WR.subn rfl (by with_reducible rfl) (by with_reducible rfl) (by omega) ?_
      | (refine WR.incn rfl rfl ?_; dsimp only [List.set])
      | (refine WR.go rfl rfl ?_; try dsimp only [List.set])
      | refine WR.aik hz rfl rfl rfl rfl (by first | with_reducible rfl | with_reducible assumption) (by omega) (by with_reducible assumption) ?_
      | refine WR.ai hz rfl rfl rfl rfl (by first | with_reducible rfl | with_reducible assumption) (by omega) ?_
      | refine WR.si hz rfl rfl rfl rfl (by first | with_reducible rfl | with_reducible assumption) (by omega) ?_
      | refine WR.az hz rfl rfl rfl rfl (by first | with_reducible rfl | with_reducible assumption) (by omega) ?_
      | refine WR.sz hz rfl rfl rfl rfl (by first | with_reducible rfl | with_reducible assumption) (by omega) (by decide) ?_
      | refine WR.pi hz rfl ?_
      | refine WR.rt rfl rfl rfl rfl ?_
      | refine WR.rz rfl rfl (by decide) ?_)
      exact ⟨rfl, rfl⟩
    · rename_i h2
      iterate 4 (first
      | (with_reducible refine WR.lt (by omega) (by omega) (fun _ => ?_) (fun _ => ?_) <;> try (exfalso; omega))
      | (with_reducible refine WR.le (by omega) (by omega) (fun _ => ?_) (fun _ => ?_) <;> try (exfalso; omega))
      | (with_reducible refine WR.eq (by omega) (by omega) (fun _ => ?_) (fun _ => ?_) <;> try (exfalso; omega))
      | (with_reducible refine WR.ne (by omega) (by omega) (fun _ => ?_) (fun _ => ?_) <;> try (exfalso; omega))
      | with_reducible refine WR.lt0 (by omega) ?_
      | with_reducible refine WR.ge0 (by omega) ?_
      | (with_reducible refine WR.bz (fun _ => ?_) (fun _ => ?_) <;> try contradiction)
      | (with_reducible refine WR.bn (fun _ => ?_) (fun _ => ?_) <;> try contradiction)
      | (with_reducible refine WR.br (fun _ => ?_) (fun _ => ?_) <;> try contradiction)
      | refine WR.gik hz rfl (by with_reducible assumption) ?_
      | refine WR.gi hz rfl ?_
      | refine WR.gr hz rfl rfl ?_
      | refine WR.addn rfl (by with_reducible rfl) (by with_reducible rfl) ?_
      | refine WR.muln rfl (by with_reducible rfl) (by with_reducible rfl) ?_
      | refine WR.subn rfl (by with_reducible rfl) (by with_reducible rfl) (by omega) ?_
      | (refine WR.incn rfl rfl ?_; dsimp only [List.set])
      | (refine WR.go rfl rfl ?_; try dsimp only [List.set])
      | refine WR.aik hz rfl rfl rfl rfl (by first | with_reducible rfl | with_reducible assumption) (by omega) (by with_reducible assumption) ?_
      | refine WR.ai hz rfl rfl rfl rfl (by first | with_reducible rfl | with_reducible assumption) (by omega) ?_
      | refine WR.si hz rfl rfl rfl rfl (by first | with_reducible rfl | with_reducible assumption) (by omega) ?_
      | refine WR.az hz rfl rfl rfl rfl (by first | with_reducible rfl | with_reducible assumption) (by omega) ?_
      | refine WR.sz hz rfl rfl rfl rfl (by first | with_reducible rfl | with_reducible assumption) (by omega) (by decide) ?_
      | refine WR.pi hz rfl ?_
      | refine WR.rt rfl rfl rfl rfl ?_
      | refine WR.rz rfl rfl (by decide) ?_)
      · repeat' (first
      | (with_reducible refine WR.lt (by omega) (by omega) (fun _ => ?_) (fun _ => ?_) <;> try (exfalso; omega))
      | (with_reducible refine WR.le (by omega) (by omega) (fun _ => ?_) (fun _ => ?_) <;> try (exfalso; omega))
      | (with_reducible refine WR.eq (by omega) (by omega) (fun _ => ?_) (fun _ => ?_) <;> try (exfalso; omega))
      | (with_reducible refine WR.ne (by omega) (by omega) (fun _ => ?_) (fun _ => ?_) <;> try (exfalso; omega))
      | with_reducible refine WR.lt0 (by omega) ?_
      | with_reducible refine WR.ge0 (by omega) ?_
      | (with_reducible refine WR.bz (fun _ => ?_) (fun _ => ?_) <;> try contradiction)
      | (with_reducible refine WR.bn (fun _ => ?_) (fun _ => ?_) <;> try contradiction)
      | (with_reducible refine WR.br (fun _ => ?_) (fun _ => ?_) <;> try contradiction)
      | refine WR.gik hz rfl (by with_reducible assumption) ?_
      | refine WR.gi hz rfl ?_
      | refine WR.gr hz rfl rfl ?_
      | refine WR.addn rfl (by with_reducible rfl) (by with_reducible rfl) ?_
      | refine WR.muln rfl (by with_reducible rfl) (by with_reducible rfl) ?_
      | refine WR.subn rfl (by with_reducible rfl) (by with_reducible rfl) (by omega) ?_
      | (refine WR.incn rfl rfl ?_; dsimp only [List.set])
      | (refine WR.go rfl rfl ?_; try dsimp only [List.set])
      | refine WR.aik hz rfl rfl rfl rfl (by first | with_reducible rfl | with_reducible assumption) (by omega) (by with_reducible assumption) ?_
      | refine WR.ai hz rfl rfl rfl rfl (by first | with_reducible rfl | with_reducible assumption) (by omega) ?_
      | refine WR.si hz rfl rfl rfl rfl (by first | with_reducible rfl | with_reducible assumption) (by omega) ?_
      | refine WR.az hz rfl rfl rfl rfl (by first | with_reducible rfl | with_reducible assumption) (by omega) ?_
      | refine WR.sz hz rfl rfl rfl rfl (by first | with_reducible rfl | with_reducible assumption) (by omega) (by decide) ?_
      | refine WR.pi hz rfl ?_
      | refine WR.rt rfl rfl rfl rfl ?_
      | refine WR.rz rfl rfl (by decide) ?_)
        exact ⟨rfl, rfl⟩
      · rename_i h3
        have h4 : I 74 20 = nI 32 := ((hu.resolve_left (by simp [h])).resolve_left (by simp [h2])).resolve_left h3
        repeat' (first
      | (with_reducible refine WR.lt (by omega) (by omega) (fun _ => ?_) (fun _ => ?_) <;> try (exfalso; omega))
      | (with_reducible refine WR.le (by omega) (by omega) (fun _ => ?_) (fun _ => ?_) <;> try (exfalso; omega))
      | (with_reducible refine WR.eq (by omega) (by omega) (fun _ => ?_) (fun _ => ?_) <;> try (exfalso; omega))
      | (with_reducible refine WR.ne (by omega) (by omega) (fun _ => ?_) (fun _ => ?_) <;> try (exfalso; omega))
      | with_reducible refine WR.lt0 (by omega) ?_
      | with_reducible refine WR.ge0 (by omega) ?_
      | (with_reducible refine WR.bz (fun _ => ?_) (fun _ => ?_) <;> try contradiction)
      | (with_reducible refine WR.bn (fun _ => ?_) (fun _ => ?_) <;> try contradiction)
      | (with_reducible refine WR.br (fun _ => ?_) (fun _ => ?_) <;> try contradiction)
      | refine WR.gik hz rfl (by with_reducible assumption) ?_
      | refine WR.gi hz rfl ?_
      | refine WR.gr hz rfl rfl ?_
      | refine WR.addn rfl (by with_reducible rfl) (by with_reducible rfl) ?_
      | refine WR.muln rfl (by with_reducible rfl) (by with_reducible rfl) ?_
      | refine WR.subn rfl (by with_reducible rfl) (by with_reducible rfl) (by omega) ?_
      | (refine WR.incn rfl rfl ?_; dsimp only [List.set])
      | (refine WR.go rfl rfl ?_; try dsimp only [List.set])
      | refine WR.aik hz rfl rfl rfl rfl (by first | with_reducible rfl | with_reducible assumption) (by omega) (by with_reducible assumption) ?_
      | refine WR.ai hz rfl rfl rfl rfl (by first | with_reducible rfl | with_reducible assumption) (by omega) ?_
      | refine WR.si hz rfl rfl rfl rfl (by first | with_reducible rfl | with_reducible assumption) (by omega) ?_
      | refine WR.az hz rfl rfl rfl rfl (by first | with_reducible rfl | with_reducible assumption) (by omega) ?_
      | refine WR.sz hz rfl rfl rfl rfl (by first | with_reducible rfl | with_reducible assumption) (by omega) (by decide) ?_
      | refine WR.pi hz rfl ?_
      | refine WR.rt rfl rfl rfl rfl ?_
      | refine WR.rz rfl rfl (by decide) ?_)
        exact ⟨rfl, rfl⟩
theorem r_waiting (d : Nat) (I : xI) (hz : zok Z) : ER Z (d + 1) 133 I [.ref 74] (fun I' v => I' = I ∧ v = some (.int (I 74 20))) := by
  refine ER.of (ls := [some (.ref 74)]) rfl rfl ?_
  repeat' (first
      | (with_reducible refine WR.lt (by omega) (by omega) (fun _ => ?_) (fun _ => ?_) <;> try (exfalso; omega))
      | (with_reducible refine WR.le (by omega) (by omega) (fun _ => ?_) (fun _ => ?_) <;> try (exfalso; omega))
      | (with_reducible refine WR.eq (by omega) (by omega) (fun _ => ?_) (fun _ => ?_) <;> try (exfalso; omega))
      | (with_reducible refine WR.ne (by omega) (by omega) (fun _ => ?_) (fun _ => ?_) <;> try (exfalso; omega))
      | with_reducible refine WR.lt0 (by omega) ?_
      | with_reducible refine WR.ge0 (by omega) ?_
      | (with_reducible refine WR.bz (fun _ => ?_) (fun _ => ?_) <;> try contradiction)
      | (with_reducible refine WR.bn (fun _ => ?_) (fun _ => ?_) <;> try contradiction)
      | (with_reducible refine WR.br (fun _ => ?_) (fun _ => ?_) <;> try contradiction)
      | refine WR.gik hz rfl (by with_reducible assumption) ?_
      | refine WR.gi hz rfl ?_
      | refine WR.gr hz rfl rfl ?_
      | refine WR.addn rfl (by with_reducible rfl) (by with_reducible rfl) ?_
      | refine WR.muln rfl (by with_reducible rfl) (by with_reducible rfl) ?_
      | refine WR.subn rfl (by with_reducible rfl) (by with_reducible rfl) (by omega) ?_
      | (refine WR.incn rfl rfl ?_; dsimp only [List.set])
      | (refine WR.go rfl rfl ?_; try dsimp only [List.set])
      | refine WR.aik hz rfl rfl rfl rfl (by first | with_reducible rfl | with_reducible assumption) (by omega) (by with_reducible assumption) ?_
      | refine WR.ai hz rfl rfl rfl rfl (by first | with_reducible rfl | with_reducible assumption) (by omega) ?_
      | refine WR.si hz rfl rfl rfl rfl (by first | with_reducible rfl | with_reducible assumption) (by omega) ?_
      | refine WR.az hz rfl rfl rfl rfl (by first | with_reducible rfl | with_reducible assumption) (by omega) ?_
      | refine WR.sz hz rfl rfl rfl rfl (by first | with_reducible rfl | with_reducible assumption) (by omega) (by decide) ?_
      | refine WR.pi hz rfl ?_
      | refine WR.rt rfl rfl rfl rfl ?_
      | refine WR.rz rfl rfl (by decide) ?_)
  exact ⟨rfl, rfl⟩
end PUBA
