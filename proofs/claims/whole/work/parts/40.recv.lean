/-! the reference: receive, begin -/
section RECB
variable {Z : xZ}
theorem f_push (I : xI) (a b : Nat) {base n i : Nat} {g : Nat → Int32} {w : Int32} (h : a ≠ b) : x_u (f_fillF I a base n g) b i w = f_fillF (x_u I b i w) a base n g := (f_fillF_ne I base n i g w h).symm
set_option maxHeartbeats 1000000 in
theorem r_rec1 (d : Nat) (I : xI) {r : Nat} (hr : r < 5) (hw : f_wok I) (hz : zok Z) : ER Z (d + 3) 117 I [.ref 74, .int (nI 1), .int (nI r)] (fun I' v => I' = f_oPrep I r ∧ v = none) := by
  refine ER.of (ls := [some (.ref 74), some (.int (nI 1)), some (.int (nI r))]) rfl rfl ?_
  iterate 1 (first
      | (with_reducible refine WR.lt (by omega) (by omega) (fun _ => ?_) (fun _ => ?_) <;> try (exfalso; omega))
      | (with_reducible refine WR.le (by omega) (by omega) (fun _ => ?_) (fun _ => ?_) <;> try (exfalso; omega))
      | (with_reducible refine WR.eq (by omega) (by omega) (fun _ => ?_) (fun _ => ?_) <;> try (exfalso; omega))
      | (with_reducible refine WR.ne (by omega) (by omega) (fun _ => ?_) (fun _ => ?_) <;> try (exfalso; omega))
      | with_reducible refine WR.lt0 (by omega) ?_
      | with_reducible refine WR.ge0 (by omega) ?_
      | (with_reducible refine WR.bz (fun _ => ?_) (fun _ => ?_))
      | (with_reducible refine WR.bn (fun _ => ?_) (fun _ => ?_))
      | (with_reducible refine WR.br (fun _ => ?_) (fun _ => ?_) <;> try contradiction)
      | refine WR.gik hz rfl (by with_reducible assumption) ?_
      | refine WR.gi hz rfl ?_
      | refine WR.gr hz rfl rfl ?_
      | refine WR.addn rfl (by with_reducible rfl) (by with_reducible rfl) ?_
      | refine WR.muln rfl (by with_reducible rfl) (by with_reducible rfl) ?_
      | refine WR.subn rfl (by with_reducible rfl) (by with_reducible rfl) (by omega) ?_
      | (refine WR.incn rfl rfl ?_; dsimp only [List.set])
      | (refine WR.go rfl rfl ?_; try dsimp only [List.set])
      | refine WR.aik hz rfl rfl rfl rfl (by first | with_reducible rfl | with_reducible assumption) (by omega) (by with_reducible assumption) ?_
      | refine WR.ai hz rfl rfl rfl rfl (by first | with_reducible rfl | with_reducible assumption) (by omega) ?_
      | refine WR.si hz rfl rfl rfl rfl (by first | with_reducible rfl | with_reducible assumption) (by omega) ?_
      | refine WR.az hz rfl rfl rfl rfl (by first | with_reducible rfl | with_reducible assumption) (by omega) ?_
      | refine WR.sz hz rfl rfl rfl rfl (by first | with_reducible rfl | with_reducible assumption) (by omega) (by decide) ?_
      | refine WR.pi hz rfl ?_
      | refine WR.rt rfl rfl rfl rfl ?_
      | refine WR.rz rfl rfl (by decide) ?_)
  refine WR.ts rfl (by decide) rfl ?_
  iterate 2 (first
      | (with_reducible refine WR.lt (by omega) (by omega) (fun _ => ?_) (fun _ => ?_) <;> try (exfalso; omega))
      | (with_reducible refine WR.le (by omega) (by omega) (fun _ => ?_) (fun _ => ?_) <;> try (exfalso; omega))
      | (with_reducible refine WR.eq (by omega) (by omega) (fun _ => ?_) (fun _ => ?_) <;> try (exfalso; omega))
      | (with_reducible refine WR.ne (by omega) (by omega) (fun _ => ?_) (fun _ => ?_) <;> try (exfalso; omega))
      | with_reducible refine WR.lt0 (by omega) ?_
      | with_reducible refine WR.ge0 (by omega) ?_
      | (with_reducible refine WR.bz (fun _ => ?_) (fun _ => ?_))
      | (with_reducible refine WR.bn (fun _ => ?_) (fun _ => ?_))
      | (with_reducible refine WR.br (fun _ => ?_) (fun _ => ?_) <;> try contradiction)
      | refine WR.gik hz rfl (by with_reducible assumption) ?_
      | refine WR.gi hz rfl ?_
      | refine WR.gr hz rfl rfl ?_
      | refine WR.addn rfl (by with_reducible rfl) (by with_reducible rfl) ?_
      | refine WR.muln rfl (by with_reducible rfl) (by with_reducible rfl) ?_
      | refine WR.subn rfl (by with_reducible rfl) (by with_reducible rfl) (by omega) ?_
      | (refine WR.incn rfl rfl ?_; dsimp only [List.set])
      | (refine WR.go rfl rfl ?_; try dsimp only [List.set])
      | refine WR.aik hz rfl rfl rfl rfl (by first | with_reducible rfl | with_reducible assumption) (by omega) (by with_reducible assumption) ?_
      | refine WR.ai hz rfl rfl rfl rfl (by first | with_reducible rfl | with_reducible assumption) (by omega) ?_
      | refine WR.si hz rfl rfl rfl rfl (by first | with_reducible rfl | with_reducible assumption) (by omega) ?_
      | refine WR.az hz rfl rfl rfl rfl (by first | with_reducible rfl | with_reducible assumption) (by omega) ?_
      | refine WR.sz hz rfl rfl rfl rfl (by first | with_reducible rfl | with_reducible assumption) (by omega) (by decide) ?_
      | refine WR.pi hz rfl ?_
      | refine WR.rt rfl rfl rfl rfl ?_
      | refine WR.rz rfl rfl (by decide) ?_)
  refine WR.V1v hz rfl rfl (r_oPrep d I hr hw hz) ?_
  iterate 2 (first
      | (with_reducible refine WR.lt (by omega) (by omega) (fun _ => ?_) (fun _ => ?_) <;> try (exfalso; omega))
      | (with_reducible refine WR.le (by omega) (by omega) (fun _ => ?_) (fun _ => ?_) <;> try (exfalso; omega))
      | (with_reducible refine WR.eq (by omega) (by omega) (fun _ => ?_) (fun _ => ?_) <;> try (exfalso; omega))
      | (with_reducible refine WR.ne (by omega) (by omega) (fun _ => ?_) (fun _ => ?_) <;> try (exfalso; omega))
      | with_reducible refine WR.lt0 (by omega) ?_
      | with_reducible refine WR.ge0 (by omega) ?_
      | (with_reducible refine WR.bz (fun _ => ?_) (fun _ => ?_))
      | (with_reducible refine WR.bn (fun _ => ?_) (fun _ => ?_))
      | (with_reducible refine WR.br (fun _ => ?_) (fun _ => ?_) <;> try contradiction)
      | refine WR.gik hz rfl (by with_reducible assumption) ?_
      | refine WR.gi hz rfl ?_
      | refine WR.gr hz rfl rfl ?_
      | refine WR.addn rfl (by with_reducible rfl) (by with_reducible rfl) ?_
      | refine WR.muln rfl (by with_reducible rfl) (by with_reducible rfl) ?_
      | refine WR.subn rfl (by with_reducible rfl) (by with_reducible rfl) (by omega) ?_
      | (refine WR.incn rfl rfl ?_; dsimp only [List.set])
      | (refine WR.go rfl rfl ?_; try dsimp only [List.set])
      | refine WR.aik hz rfl rfl rfl rfl (by first | with_reducible rfl | with_reducible assumption) (by omega) (by with_reducible assumption) ?_
      | refine WR.ai hz rfl rfl rfl rfl (by first | with_reducible rfl | with_reducible assumption) (by omega) ?_
      | refine WR.si hz rfl rfl rfl rfl (by first | with_reducible rfl | with_reducible assumption) (by omega) ?_
      | refine WR.az hz rfl rfl rfl rfl (by first | with_reducible rfl | with_reducible assumption) (by omega) ?_
      | refine WR.sz hz rfl rfl rfl rfl (by first | with_reducible rfl | with_reducible assumption) (by omega) (by decide) ?_
      | refine WR.pi hz rfl ?_
      | refine WR.rt rfl rfl rfl rfl ?_
      | refine WR.rz rfl rfl (by decide) ?_)
  exact ⟨rfl, rfl⟩
set_option maxHeartbeats 1000000 in
theorem r_rec2 (d : Nat) (I : xI) {r f e : Nat} (hr : r < 5) (hu : I 74 35 = nI f) (hf2 : f ≤ 24) (he : I 83 r = nI e) (he2 : e ≤ 24) (hf : f_wf I) (hw : f_wok I) (hz : zok Z) : ER Z (d + 7) 117 I [.ref 74, .int (nI 2), .int (nI r)] (fun I' v => I' = f_oProm I r f e ∧ v = none) := by
  refine ER.of (ls := [some (.ref 74), some (.int (nI 2)), some (.int (nI r))]) rfl rfl ?_
  iterate 1 (first
      | (with_reducible refine WR.lt (by omega) (by omega) (fun _ => ?_) (fun _ => ?_) <;> try (exfalso; omega))
      | (with_reducible refine WR.le (by omega) (by omega) (fun _ => ?_) (fun _ => ?_) <;> try (exfalso; omega))
      | (with_reducible refine WR.eq (by omega) (by omega) (fun _ => ?_) (fun _ => ?_) <;> try (exfalso; omega))
      | (with_reducible refine WR.ne (by omega) (by omega) (fun _ => ?_) (fun _ => ?_) <;> try (exfalso; omega))
      | with_reducible refine WR.lt0 (by omega) ?_
      | with_reducible refine WR.ge0 (by omega) ?_
      | (with_reducible refine WR.bz (fun _ => ?_) (fun _ => ?_))
      | (with_reducible refine WR.bn (fun _ => ?_) (fun _ => ?_))
      | (with_reducible refine WR.br (fun _ => ?_) (fun _ => ?_) <;> try contradiction)
      | refine WR.gik hz rfl (by with_reducible assumption) ?_
      | refine WR.gi hz rfl ?_
      | refine WR.gr hz rfl rfl ?_
      | refine WR.addn rfl (by with_reducible rfl) (by with_reducible rfl) ?_
      | refine WR.muln rfl (by with_reducible rfl) (by with_reducible rfl) ?_
      | refine WR.subn rfl (by with_reducible rfl) (by with_reducible rfl) (by omega) ?_
      | (refine WR.incn rfl rfl ?_; dsimp only [List.set])
      | (refine WR.go rfl rfl ?_; try dsimp only [List.set])
      | refine WR.aik hz rfl rfl rfl rfl (by first | with_reducible rfl | with_reducible assumption) (by omega) (by with_reducible assumption) ?_
      | refine WR.ai hz rfl rfl rfl rfl (by first | with_reducible rfl | with_reducible assumption) (by omega) ?_
      | refine WR.si hz rfl rfl rfl rfl (by first | with_reducible rfl | with_reducible assumption) (by omega) ?_
      | refine WR.az hz rfl rfl rfl rfl (by first | with_reducible rfl | with_reducible assumption) (by omega) ?_
      | refine WR.sz hz rfl rfl rfl rfl (by first | with_reducible rfl | with_reducible assumption) (by omega) (by decide) ?_
      | refine WR.pi hz rfl ?_
      | refine WR.rt rfl rfl rfl rfl ?_
      | refine WR.rz rfl rfl (by decide) ?_)
  refine WR.ts rfl (by decide) rfl ?_
  iterate 2 (first
      | (with_reducible refine WR.lt (by omega) (by omega) (fun _ => ?_) (fun _ => ?_) <;> try (exfalso; omega))
      | (with_reducible refine WR.le (by omega) (by omega) (fun _ => ?_) (fun _ => ?_) <;> try (exfalso; omega))
      | (with_reducible refine WR.eq (by omega) (by omega) (fun _ => ?_) (fun _ => ?_) <;> try (exfalso; omega))
      | (with_reducible refine WR.ne (by omega) (by omega) (fun _ => ?_) (fun _ => ?_) <;> try (exfalso; omega))
      | with_reducible refine WR.lt0 (by omega) ?_
      | with_reducible refine WR.ge0 (by omega) ?_
      | (with_reducible refine WR.bz (fun _ => ?_) (fun _ => ?_))
      | (with_reducible refine WR.bn (fun _ => ?_) (fun _ => ?_))
      | (with_reducible refine WR.br (fun _ => ?_) (fun _ => ?_) <;> try contradiction)
      | refine WR.gik hz rfl (by with_reducible assumption) ?_
      | refine WR.gi hz rfl ?_
      | refine WR.gr hz rfl rfl ?_
      | refine WR.addn rfl (by with_reducible rfl) (by with_reducible rfl) ?_
      | refine WR.muln rfl (by with_reducible rfl) (by with_reducible rfl) ?_
      | refine WR.subn rfl (by with_reducible rfl) (by with_reducible rfl) (by omega) ?_
      | (refine WR.incn rfl rfl ?_; dsimp only [List.set])
      | (refine WR.go rfl rfl ?_; try dsimp only [List.set])
      | refine WR.aik hz rfl rfl rfl rfl (by first | with_reducible rfl | with_reducible assumption) (by omega) (by with_reducible assumption) ?_
      | refine WR.ai hz rfl rfl rfl rfl (by first | with_reducible rfl | with_reducible assumption) (by omega) ?_
      | refine WR.si hz rfl rfl rfl rfl (by first | with_reducible rfl | with_reducible assumption) (by omega) ?_
      | refine WR.az hz rfl rfl rfl rfl (by first | with_reducible rfl | with_reducible assumption) (by omega) ?_
      | refine WR.sz hz rfl rfl rfl rfl (by first | with_reducible rfl | with_reducible assumption) (by omega) (by decide) ?_
      | refine WR.pi hz rfl ?_
      | refine WR.rt rfl rfl rfl rfl ?_
      | refine WR.rz rfl rfl (by decide) ?_)
  refine WR.V1v hz rfl rfl (r_oProm d I hr hu hf2 he he2 hf hw hz) ?_
  iterate 2 (first
      | (with_reducible refine WR.lt (by omega) (by omega) (fun _ => ?_) (fun _ => ?_) <;> try (exfalso; omega))
      | (with_reducible refine WR.le (by omega) (by omega) (fun _ => ?_) (fun _ => ?_) <;> try (exfalso; omega))
      | (with_reducible refine WR.eq (by omega) (by omega) (fun _ => ?_) (fun _ => ?_) <;> try (exfalso; omega))
      | (with_reducible refine WR.ne (by omega) (by omega) (fun _ => ?_) (fun _ => ?_) <;> try (exfalso; omega))
      | with_reducible refine WR.lt0 (by omega) ?_
      | with_reducible refine WR.ge0 (by omega) ?_
      | (with_reducible refine WR.bz (fun _ => ?_) (fun _ => ?_))
      | (with_reducible refine WR.bn (fun _ => ?_) (fun _ => ?_))
      | (with_reducible refine WR.br (fun _ => ?_) (fun _ => ?_) <;> try contradiction)
      | refine WR.gik hz rfl (by with_reducible assumption) ?_
      | refine WR.gi hz rfl ?_
      | refine WR.gr hz rfl rfl ?_
      | refine WR.addn rfl (by with_reducible rfl) (by with_reducible rfl) ?_
      | refine WR.muln rfl (by with_reducible rfl) (by with_reducible rfl) ?_
      | refine WR.subn rfl (by with_reducible rfl) (by with_reducible rfl) (by omega) ?_
      | (refine WR.incn rfl rfl ?_; dsimp only [List.set])
      | (refine WR.go rfl rfl ?_; try dsimp only [List.set])
      | refine WR.aik hz rfl rfl rfl rfl (by first | with_reducible rfl | with_reducible assumption) (by omega) (by with_reducible assumption) ?_
      | refine WR.ai hz rfl rfl rfl rfl (by first | with_reducible rfl | with_reducible assumption) (by omega) ?_
      | refine WR.si hz rfl rfl rfl rfl (by first | with_reducible rfl | with_reducible assumption) (by omega) ?_
      | refine WR.az hz rfl rfl rfl rfl (by first | with_reducible rfl | with_reducible assumption) (by omega) ?_
      | refine WR.sz hz rfl rfl rfl rfl (by first | with_reducible rfl | with_reducible assumption) (by omega) (by decide) ?_
      | refine WR.pi hz rfl ?_
      | refine WR.rt rfl rfl rfl rfl ?_
      | refine WR.rz rfl rfl (by decide) ?_)
  exact ⟨rfl, rfl⟩
set_option maxHeartbeats 1000000 in
theorem r_rec3 (d : Nat) (I : xI) {r s : Nat} (hr : r < 5) (hs : I 74 33 = nI s) (hs2 : s ≤ 24) (hw : f_wok I) (hz : zok Z) : ER Z (d + 3) 117 I [.ref 74, .int (nI 3), .int (nI r)] (fun I' v => I' = f_oAcc I r s ∧ v = none) := by
  refine ER.of (ls := [some (.ref 74), some (.int (nI 3)), some (.int (nI r))]) rfl rfl ?_
  iterate 1 (first
      | (with_reducible refine WR.lt (by omega) (by omega) (fun _ => ?_) (fun _ => ?_) <;> try (exfalso; omega))
      | (with_reducible refine WR.le (by omega) (by omega) (fun _ => ?_) (fun _ => ?_) <;> try (exfalso; omega))
      | (with_reducible refine WR.eq (by omega) (by omega) (fun _ => ?_) (fun _ => ?_) <;> try (exfalso; omega))
      | (with_reducible refine WR.ne (by omega) (by omega) (fun _ => ?_) (fun _ => ?_) <;> try (exfalso; omega))
      | with_reducible refine WR.lt0 (by omega) ?_
      | with_reducible refine WR.ge0 (by omega) ?_
      | (with_reducible refine WR.bz (fun _ => ?_) (fun _ => ?_))
      | (with_reducible refine WR.bn (fun _ => ?_) (fun _ => ?_))
      | (with_reducible refine WR.br (fun _ => ?_) (fun _ => ?_) <;> try contradiction)
      | refine WR.gik hz rfl (by with_reducible assumption) ?_
      | refine WR.gi hz rfl ?_
      | refine WR.gr hz rfl rfl ?_
      | refine WR.addn rfl (by with_reducible rfl) (by with_reducible rfl) ?_
      | refine WR.muln rfl (by with_reducible rfl) (by with_reducible rfl) ?_
      | refine WR.subn rfl (by with_reducible rfl) (by with_reducible rfl) (by omega) ?_
      | (refine WR.incn rfl rfl ?_; dsimp only [List.set])
      | (refine WR.go rfl rfl ?_; try dsimp only [List.set])
      | refine WR.aik hz rfl rfl rfl rfl (by first | with_reducible rfl | with_reducible assumption) (by omega) (by with_reducible assumption) ?_
      | refine WR.ai hz rfl rfl rfl rfl (by first | with_reducible rfl | with_reducible assumption) (by omega) ?_
      | refine WR.si hz rfl rfl rfl rfl (by first | with_reducible rfl | with_reducible assumption) (by omega) ?_
      | refine WR.az hz rfl rfl rfl rfl (by first | with_reducible rfl | with_reducible assumption) (by omega) ?_
      | refine WR.sz hz rfl rfl rfl rfl (by first | with_reducible rfl | with_reducible assumption) (by omega) (by decide) ?_
      | refine WR.pi hz rfl ?_
      | refine WR.rt rfl rfl rfl rfl ?_
      | refine WR.rz rfl rfl (by decide) ?_)
  refine WR.ts rfl (by decide) rfl ?_
  iterate 2 (first
      | (with_reducible refine WR.lt (by omega) (by omega) (fun _ => ?_) (fun _ => ?_) <;> try (exfalso; omega))
      | (with_reducible refine WR.le (by omega) (by omega) (fun _ => ?_) (fun _ => ?_) <;> try (exfalso; omega))
      | (with_reducible refine WR.eq (by omega) (by omega) (fun _ => ?_) (fun _ => ?_) <;> try (exfalso; omega))
      | (with_reducible refine WR.ne (by omega) (by omega) (fun _ => ?_) (fun _ => ?_) <;> try (exfalso; omega))
      | with_reducible refine WR.lt0 (by omega) ?_
      | with_reducible refine WR.ge0 (by omega) ?_
      | (with_reducible refine WR.bz (fun _ => ?_) (fun _ => ?_))
      | (with_reducible refine WR.bn (fun _ => ?_) (fun _ => ?_))
      | (with_reducible refine WR.br (fun _ => ?_) (fun _ => ?_) <;> try contradiction)
      | refine WR.gik hz rfl (by with_reducible assumption) ?_
      | refine WR.gi hz rfl ?_
      | refine WR.gr hz rfl rfl ?_
      | refine WR.addn rfl (by with_reducible rfl) (by with_reducible rfl) ?_
      | refine WR.muln rfl (by with_reducible rfl) (by with_reducible rfl) ?_
      | refine WR.subn rfl (by with_reducible rfl) (by with_reducible rfl) (by omega) ?_
      | (refine WR.incn rfl rfl ?_; dsimp only [List.set])
      | (refine WR.go rfl rfl ?_; try dsimp only [List.set])
      | refine WR.aik hz rfl rfl rfl rfl (by first | with_reducible rfl | with_reducible assumption) (by omega) (by with_reducible assumption) ?_
      | refine WR.ai hz rfl rfl rfl rfl (by first | with_reducible rfl | with_reducible assumption) (by omega) ?_
      | refine WR.si hz rfl rfl rfl rfl (by first | with_reducible rfl | with_reducible assumption) (by omega) ?_
      | refine WR.az hz rfl rfl rfl rfl (by first | with_reducible rfl | with_reducible assumption) (by omega) ?_
      | refine WR.sz hz rfl rfl rfl rfl (by first | with_reducible rfl | with_reducible assumption) (by omega) (by decide) ?_
      | refine WR.pi hz rfl ?_
      | refine WR.rt rfl rfl rfl rfl ?_
      | refine WR.rz rfl rfl (by decide) ?_)
  refine WR.V1v hz rfl rfl (r_oAcc d I hr hs hs2 hw hz) ?_
  iterate 2 (first
      | (with_reducible refine WR.lt (by omega) (by omega) (fun _ => ?_) (fun _ => ?_) <;> try (exfalso; omega))
      | (with_reducible refine WR.le (by omega) (by omega) (fun _ => ?_) (fun _ => ?_) <;> try (exfalso; omega))
      | (with_reducible refine WR.eq (by omega) (by omega) (fun _ => ?_) (fun _ => ?_) <;> try (exfalso; omega))
      | (with_reducible refine WR.ne (by omega) (by omega) (fun _ => ?_) (fun _ => ?_) <;> try (exfalso; omega))
      | with_reducible refine WR.lt0 (by omega) ?_
      | with_reducible refine WR.ge0 (by omega) ?_
      | (with_reducible refine WR.bz (fun _ => ?_) (fun _ => ?_))
      | (with_reducible refine WR.bn (fun _ => ?_) (fun _ => ?_))
      | (with_reducible refine WR.br (fun _ => ?_) (fun _ => ?_) <;> try contradiction)
      | refine WR.gik hz rfl (by with_reducible assumption) ?_
      | refine WR.gi hz rfl ?_
      | refine WR.gr hz rfl rfl ?_
      | refine WR.addn rfl (by with_reducible rfl) (by with_reducible rfl) ?_
      | refine WR.muln rfl (by with_reducible rfl) (by with_reducible rfl) ?_
      | refine WR.subn rfl (by with_reducible rfl) (by with_reducible rfl) (by omega) ?_
      | (refine WR.incn rfl rfl ?_; dsimp only [List.set])
      | (refine WR.go rfl rfl ?_; try dsimp only [List.set])
      | refine WR.aik hz rfl rfl rfl rfl (by first | with_reducible rfl | with_reducible assumption) (by omega) (by with_reducible assumption) ?_
      | refine WR.ai hz rfl rfl rfl rfl (by first | with_reducible rfl | with_reducible assumption) (by omega) ?_
      | refine WR.si hz rfl rfl rfl rfl (by first | with_reducible rfl | with_reducible assumption) (by omega) ?_
      | refine WR.az hz rfl rfl rfl rfl (by first | with_reducible rfl | with_reducible assumption) (by omega) ?_
      | refine WR.sz hz rfl rfl rfl rfl (by first | with_reducible rfl | with_reducible assumption) (by omega) (by decide) ?_
      | refine WR.pi hz rfl ?_
      | refine WR.rt rfl rfl rfl rfl ?_
      | refine WR.rz rfl rfl (by decide) ?_)
  exact ⟨rfl, rfl⟩
set_option maxHeartbeats 1000000 in
theorem r_rec4 (d : Nat) (I : xI) {r s e : Nat} (hr : r < 5) (hs : I 74 33 = nI s) (hs2 : s ≤ 24) (he : I 83 r = nI e) (he2 : e ≤ 24) (hf : f_wf I) (hw : f_wok I) (ho : I 91 (25 * r + s) ≤ 0 ∨ ∃ q, 1 ≤ q ∧ q < 41 ∧ I 91 (25 * r + s) = nI q) (hz : zok Z) : ER Z (d + 7) 117 I [.ref 74, .int (nI 4), .int (nI r)] (fun I' v => I' = f_oVot I r s e ∧ v = none) := by
  refine ER.of (ls := [some (.ref 74), some (.int (nI 4)), some (.int (nI r))]) rfl rfl ?_
  iterate 1 (first
      | (with_reducible refine WR.lt (by omega) (by omega) (fun _ => ?_) (fun _ => ?_) <;> try (exfalso; omega))
      | (with_reducible refine WR.le (by omega) (by omega) (fun _ => ?_) (fun _ => ?_) <;> try (exfalso; omega))
      | (with_reducible refine WR.eq (by omega) (by omega) (fun _ => ?_) (fun _ => ?_) <;> try (exfalso; omega))
      | (with_reducible refine WR.ne (by omega) (by omega) (fun _ => ?_) (fun _ => ?_) <;> try (exfalso; omega))
      | with_reducible refine WR.lt0 (by omega) ?_
      | with_reducible refine WR.ge0 (by omega) ?_
      | (with_reducible refine WR.bz (fun _ => ?_) (fun _ => ?_))
      | (with_reducible refine WR.bn (fun _ => ?_) (fun _ => ?_))
      | (with_reducible refine WR.br (fun _ => ?_) (fun _ => ?_) <;> try contradiction)
      | refine WR.gik hz rfl (by with_reducible assumption) ?_
      | refine WR.gi hz rfl ?_
      | refine WR.gr hz rfl rfl ?_
      | refine WR.addn rfl (by with_reducible rfl) (by with_reducible rfl) ?_
      | refine WR.muln rfl (by with_reducible rfl) (by with_reducible rfl) ?_
      | refine WR.subn rfl (by with_reducible rfl) (by with_reducible rfl) (by omega) ?_
      | (refine WR.incn rfl rfl ?_; dsimp only [List.set])
      | (refine WR.go rfl rfl ?_; try dsimp only [List.set])
      | refine WR.aik hz rfl rfl rfl rfl (by first | with_reducible rfl | with_reducible assumption) (by omega) (by with_reducible assumption) ?_
      | refine WR.ai hz rfl rfl rfl rfl (by first | with_reducible rfl | with_reducible assumption) (by omega) ?_
      | refine WR.si hz rfl rfl rfl rfl (by first | with_reducible rfl | with_reducible assumption) (by omega) ?_
      | refine WR.az hz rfl rfl rfl rfl (by first | with_reducible rfl | with_reducible assumption) (by omega) ?_
      | refine WR.sz hz rfl rfl rfl rfl (by first | with_reducible rfl | with_reducible assumption) (by omega) (by decide) ?_
      | refine WR.pi hz rfl ?_
      | refine WR.rt rfl rfl rfl rfl ?_
      | refine WR.rz rfl rfl (by decide) ?_)
  refine WR.ts rfl (by decide) rfl ?_
  iterate 2 (first
      | (with_reducible refine WR.lt (by omega) (by omega) (fun _ => ?_) (fun _ => ?_) <;> try (exfalso; omega))
      | (with_reducible refine WR.le (by omega) (by omega) (fun _ => ?_) (fun _ => ?_) <;> try (exfalso; omega))
      | (with_reducible refine WR.eq (by omega) (by omega) (fun _ => ?_) (fun _ => ?_) <;> try (exfalso; omega))
      | (with_reducible refine WR.ne (by omega) (by omega) (fun _ => ?_) (fun _ => ?_) <;> try (exfalso; omega))
      | with_reducible refine WR.lt0 (by omega) ?_
      | with_reducible refine WR.ge0 (by omega) ?_
      | (with_reducible refine WR.bz (fun _ => ?_) (fun _ => ?_))
      | (with_reducible refine WR.bn (fun _ => ?_) (fun _ => ?_))
      | (with_reducible refine WR.br (fun _ => ?_) (fun _ => ?_) <;> try contradiction)
      | refine WR.gik hz rfl (by with_reducible assumption) ?_
      | refine WR.gi hz rfl ?_
      | refine WR.gr hz rfl rfl ?_
      | refine WR.addn rfl (by with_reducible rfl) (by with_reducible rfl) ?_
      | refine WR.muln rfl (by with_reducible rfl) (by with_reducible rfl) ?_
      | refine WR.subn rfl (by with_reducible rfl) (by with_reducible rfl) (by omega) ?_
      | (refine WR.incn rfl rfl ?_; dsimp only [List.set])
      | (refine WR.go rfl rfl ?_; try dsimp only [List.set])
      | refine WR.aik hz rfl rfl rfl rfl (by first | with_reducible rfl | with_reducible assumption) (by omega) (by with_reducible assumption) ?_
      | refine WR.ai hz rfl rfl rfl rfl (by first | with_reducible rfl | with_reducible assumption) (by omega) ?_
      | refine WR.si hz rfl rfl rfl rfl (by first | with_reducible rfl | with_reducible assumption) (by omega) ?_
      | refine WR.az hz rfl rfl rfl rfl (by first | with_reducible rfl | with_reducible assumption) (by omega) ?_
      | refine WR.sz hz rfl rfl rfl rfl (by first | with_reducible rfl | with_reducible assumption) (by omega) (by decide) ?_
      | refine WR.pi hz rfl ?_
      | refine WR.rt rfl rfl rfl rfl ?_
      | refine WR.rz rfl rfl (by decide) ?_)
  refine WR.V1v hz rfl rfl (r_oVot d I hr hs hs2 he he2 hf hw ho hz) ?_
  iterate 2 (first
      | (with_reducible refine WR.lt (by omega) (by omega) (fun _ => ?_) (fun _ => ?_) <;> try (exfalso; omega))
      | (with_reducible refine WR.le (by omega) (by omega) (fun _ => ?_) (fun _ => ?_) <;> try (exfalso; omega))
      | (with_reducible refine WR.eq (by omega) (by omega) (fun _ => ?_) (fun _ => ?_) <;> try (exfalso; omega))
      | (with_reducible refine WR.ne (by omega) (by omega) (fun _ => ?_) (fun _ => ?_) <;> try (exfalso; omega))
      | with_reducible refine WR.lt0 (by omega) ?_
      | with_reducible refine WR.ge0 (by omega) ?_
      | (with_reducible refine WR.bz (fun _ => ?_) (fun _ => ?_))
      | (with_reducible refine WR.bn (fun _ => ?_) (fun _ => ?_))
      | (with_reducible refine WR.br (fun _ => ?_) (fun _ => ?_) <;> try contradiction)
      | refine WR.gik hz rfl (by with_reducible assumption) ?_
      | refine WR.gi hz rfl ?_
      | refine WR.gr hz rfl rfl ?_
      | refine WR.addn rfl (by with_reducible rfl) (by with_reducible rfl) ?_
      | refine WR.muln rfl (by with_reducible rfl) (by with_reducible rfl) ?_
      | refine WR.subn rfl (by with_reducible rfl) (by with_reducible rfl) (by omega) ?_
      | (refine WR.incn rfl rfl ?_; dsimp only [List.set])
      | (refine WR.go rfl rfl ?_; try dsimp only [List.set])
      | refine WR.aik hz rfl rfl rfl rfl (by first | with_reducible rfl | with_reducible assumption) (by omega) (by with_reducible assumption) ?_
      | refine WR.ai hz rfl rfl rfl rfl (by first | with_reducible rfl | with_reducible assumption) (by omega) ?_
      | refine WR.si hz rfl rfl rfl rfl (by first | with_reducible rfl | with_reducible assumption) (by omega) ?_
      | refine WR.az hz rfl rfl rfl rfl (by first | with_reducible rfl | with_reducible assumption) (by omega) ?_
      | refine WR.sz hz rfl rfl rfl rfl (by first | with_reducible rfl | with_reducible assumption) (by omega) (by decide) ?_
      | refine WR.pi hz rfl ?_
      | refine WR.rt rfl rfl rfl rfl ?_
      | refine WR.rz rfl rfl (by decide) ?_)
  exact ⟨rfl, rfl⟩
set_option maxHeartbeats 1000000 in
theorem r_rec5 (d : Nat) (I : xI) {r s e : Nat} (hr : r < 5) (hs : I 74 33 = nI s) (hs2 : s ≤ 24) (he : I 83 r = nI e) (he2 : e ≤ 24) (hf : f_wf I) (hw : f_wok I) (hz : zok Z) : ER Z (d + 7) 117 I [.ref 74, .int (nI 5), .int (nI r)] (fun I' v => I' = f_oLearn I r s e ∧ v = none) := by
  refine ER.of (ls := [some (.ref 74), some (.int (nI 5)), some (.int (nI r))]) rfl rfl ?_
  iterate 1 (first
      | (with_reducible refine WR.lt (by omega) (by omega) (fun _ => ?_) (fun _ => ?_) <;> try (exfalso; omega))
      | (with_reducible refine WR.le (by omega) (by omega) (fun _ => ?_) (fun _ => ?_) <;> try (exfalso; omega))
      | (with_reducible refine WR.eq (by omega) (by omega) (fun _ => ?_) (fun _ => ?_) <;> try (exfalso; omega))
      | (with_reducible refine WR.ne (by omega) (by omega) (fun _ => ?_) (fun _ => ?_) <;> try (exfalso; omega))
      | with_reducible refine WR.lt0 (by omega) ?_
      | with_reducible refine WR.ge0 (by omega) ?_
      | (with_reducible refine WR.bz (fun _ => ?_) (fun _ => ?_))
      | (with_reducible refine WR.bn (fun _ => ?_) (fun _ => ?_))
      | (with_reducible refine WR.br (fun _ => ?_) (fun _ => ?_) <;> try contradiction)
      | refine WR.gik hz rfl (by with_reducible assumption) ?_
      | refine WR.gi hz rfl ?_
      | refine WR.gr hz rfl rfl ?_
      | refine WR.addn rfl (by with_reducible rfl) (by with_reducible rfl) ?_
      | refine WR.muln rfl (by with_reducible rfl) (by with_reducible rfl) ?_
      | refine WR.subn rfl (by with_reducible rfl) (by with_reducible rfl) (by omega) ?_
      | (refine WR.incn rfl rfl ?_; dsimp only [List.set])
      | (refine WR.go rfl rfl ?_; try dsimp only [List.set])
      | refine WR.aik hz rfl rfl rfl rfl (by first | with_reducible rfl | with_reducible assumption) (by omega) (by with_reducible assumption) ?_
      | refine WR.ai hz rfl rfl rfl rfl (by first | with_reducible rfl | with_reducible assumption) (by omega) ?_
      | refine WR.si hz rfl rfl rfl rfl (by first | with_reducible rfl | with_reducible assumption) (by omega) ?_
      | refine WR.az hz rfl rfl rfl rfl (by first | with_reducible rfl | with_reducible assumption) (by omega) ?_
      | refine WR.sz hz rfl rfl rfl rfl (by first | with_reducible rfl | with_reducible assumption) (by omega) (by decide) ?_
      | refine WR.pi hz rfl ?_
      | refine WR.rt rfl rfl rfl rfl ?_
      | refine WR.rz rfl rfl (by decide) ?_)
  refine WR.ts rfl (by decide) rfl ?_
  iterate 2 (first
      | (with_reducible refine WR.lt (by omega) (by omega) (fun _ => ?_) (fun _ => ?_) <;> try (exfalso; omega))
      | (with_reducible refine WR.le (by omega) (by omega) (fun _ => ?_) (fun _ => ?_) <;> try (exfalso; omega))
      | (with_reducible refine WR.eq (by omega) (by omega) (fun _ => ?_) (fun _ => ?_) <;> try (exfalso; omega))
      | (with_reducible refine WR.ne (by omega) (by omega) (fun _ => ?_) (fun _ => ?_) <;> try (exfalso; omega))
      | with_reducible refine WR.lt0 (by omega) ?_
      | with_reducible refine WR.ge0 (by omega) ?_
      | (with_reducible refine WR.bz (fun _ => ?_) (fun _ => ?_))
      | (with_reducible refine WR.bn (fun _ => ?_) (fun _ => ?_))
      | (with_reducible refine WR.br (fun _ => ?_) (fun _ => ?_) <;> try contradiction)
      | refine WR.gik hz rfl (by with_reducible assumption) ?_
      | refine WR.gi hz rfl ?_
      | refine WR.gr hz rfl rfl ?_
      | refine WR.addn rfl (by with_reducible rfl) (by with_reducible rfl) ?_
      | refine WR.muln rfl (by with_reducible rfl) (by with_reducible rfl) ?_
      | refine WR.subn rfl (by with_reducible rfl) (by with_reducible rfl) (by omega) ?_
      | (refine WR.incn rfl rfl ?_; dsimp only [List.set])
      | (refine WR.go rfl rfl ?_; try dsimp only [List.set])
      | refine WR.aik hz rfl rfl rfl rfl (by first | with_reducible rfl | with_reducible assumption) (by omega) (by with_reducible assumption) ?_
      | refine WR.ai hz rfl rfl rfl rfl (by first | with_reducible rfl | with_reducible assumption) (by omega) ?_
      | refine WR.si hz rfl rfl rfl rfl (by first | with_reducible rfl | with_reducible assumption) (by omega) ?_
      | refine WR.az hz rfl rfl rfl rfl (by first | with_reducible rfl | with_reducible assumption) (by omega) ?_
      | refine WR.sz hz rfl rfl rfl rfl (by first | with_reducible rfl | with_reducible assumption) (by omega) (by decide) ?_
      | refine WR.pi hz rfl ?_
      | refine WR.rt rfl rfl rfl rfl ?_
      | refine WR.rz rfl rfl (by decide) ?_)
  refine WR.V1v hz rfl rfl (r_oLearn d I hr hs hs2 he he2 hf hw hz) ?_
  iterate 2 (first
      | (with_reducible refine WR.lt (by omega) (by omega) (fun _ => ?_) (fun _ => ?_) <;> try (exfalso; omega))
      | (with_reducible refine WR.le (by omega) (by omega) (fun _ => ?_) (fun _ => ?_) <;> try (exfalso; omega))
      | (with_reducible refine WR.eq (by omega) (by omega) (fun _ => ?_) (fun _ => ?_) <;> try (exfalso; omega))
      | (with_reducible refine WR.ne (by omega) (by omega) (fun _ => ?_) (fun _ => ?_) <;> try (exfalso; omega))
      | with_reducible refine WR.lt0 (by omega) ?_
      | with_reducible refine WR.ge0 (by omega) ?_
      | (with_reducible refine WR.bz (fun _ => ?_) (fun _ => ?_))
      | (with_reducible refine WR.bn (fun _ => ?_) (fun _ => ?_))
      | (with_reducible refine WR.br (fun _ => ?_) (fun _ => ?_) <;> try contradiction)
      | refine WR.gik hz rfl (by with_reducible assumption) ?_
      | refine WR.gi hz rfl ?_
      | refine WR.gr hz rfl rfl ?_
      | refine WR.addn rfl (by with_reducible rfl) (by with_reducible rfl) ?_
      | refine WR.muln rfl (by with_reducible rfl) (by with_reducible rfl) ?_
      | refine WR.subn rfl (by with_reducible rfl) (by with_reducible rfl) (by omega) ?_
      | (refine WR.incn rfl rfl ?_; dsimp only [List.set])
      | (refine WR.go rfl rfl ?_; try dsimp only [List.set])
      | refine WR.aik hz rfl rfl rfl rfl (by first | with_reducible rfl | with_reducible assumption) (by omega) (by with_reducible assumption) ?_
      | refine WR.ai hz rfl rfl rfl rfl (by first | with_reducible rfl | with_reducible assumption) (by omega) ?_
      | refine WR.si hz rfl rfl rfl rfl (by first | with_reducible rfl | with_reducible assumption) (by omega) ?_
      | refine WR.az hz rfl rfl rfl rfl (by first | with_reducible rfl | with_reducible assumption) (by omega) ?_
      | refine WR.sz hz rfl rfl rfl rfl (by first | with_reducible rfl | with_reducible assumption) (by omega) (by decide) ?_
      | refine WR.pi hz rfl ?_
      | refine WR.rt rfl rfl rfl rfl ?_
      | refine WR.rz rfl rfl (by decide) ?_)
  exact ⟨rfl, rfl⟩
def f_oRef (I : xI) (r : Nat) : xI := x_u I 81 r (if I 74 33 ≤ I 81 r then I 81 r else I 74 33)
set_option maxHeartbeats 1000000 in
theorem r_rec6 (d : Nat) (I : xI) {r : Nat} (hr : r < 5) (hz : zok Z) : ER Z (d + 1) 117 I [.ref 74, .int (nI 6), .int (nI r)] (fun I' v => I' = f_oRef I r ∧ v = none) := by
  refine ER.of (ls := [some (.ref 74), some (.int (nI 6)), some (.int (nI r))]) rfl rfl ?_
  iterate 1 (first
      | (with_reducible refine WR.lt (by omega) (by omega) (fun _ => ?_) (fun _ => ?_) <;> try (exfalso; omega))
      | (with_reducible refine WR.le (by omega) (by omega) (fun _ => ?_) (fun _ => ?_) <;> try (exfalso; omega))
      | (with_reducible refine WR.eq (by omega) (by omega) (fun _ => ?_) (fun _ => ?_) <;> try (exfalso; omega))
      | (with_reducible refine WR.ne (by omega) (by omega) (fun _ => ?_) (fun _ => ?_) <;> try (exfalso; omega))
      | with_reducible refine WR.lt0 (by omega) ?_
      | with_reducible refine WR.ge0 (by omega) ?_
      | (with_reducible refine WR.bz (fun _ => ?_) (fun _ => ?_))
      | (with_reducible refine WR.bn (fun _ => ?_) (fun _ => ?_))
      | (with_reducible refine WR.br (fun _ => ?_) (fun _ => ?_) <;> try contradiction)
      | refine WR.gik hz rfl (by with_reducible assumption) ?_
      | refine WR.gi hz rfl ?_
      | refine WR.gr hz rfl rfl ?_
      | refine WR.addn rfl (by with_reducible rfl) (by with_reducible rfl) ?_
      | refine WR.muln rfl (by with_reducible rfl) (by with_reducible rfl) ?_
      | refine WR.subn rfl (by with_reducible rfl) (by with_reducible rfl) (by omega) ?_
      | (refine WR.incn rfl rfl ?_; dsimp only [List.set])
      | (refine WR.go rfl rfl ?_; try dsimp only [List.set])
      | refine WR.aik hz rfl rfl rfl rfl (by first | with_reducible rfl | with_reducible assumption) (by omega) (by with_reducible assumption) ?_
      | refine WR.ai hz rfl rfl rfl rfl (by first | with_reducible rfl | with_reducible assumption) (by omega) ?_
      | refine WR.si hz rfl rfl rfl rfl (by first | with_reducible rfl | with_reducible assumption) (by omega) ?_
      | refine WR.az hz rfl rfl rfl rfl (by first | with_reducible rfl | with_reducible assumption) (by omega) ?_
      | refine WR.sz hz rfl rfl rfl rfl (by first | with_reducible rfl | with_reducible assumption) (by omega) (by decide) ?_
      | refine WR.pi hz rfl ?_
      | refine WR.rt rfl rfl rfl rfl ?_
      | refine WR.rz rfl rfl (by decide) ?_)
  refine WR.ts rfl (by decide) rfl ?_
  repeat' (first
      | (with_reducible refine WR.lt (by omega) (by omega) (fun _ => ?_) (fun _ => ?_) <;> try (exfalso; omega))
      | (with_reducible refine WR.le (by omega) (by omega) (fun _ => ?_) (fun _ => ?_) <;> try (exfalso; omega))
      | (with_reducible refine WR.eq (by omega) (by omega) (fun _ => ?_) (fun _ => ?_) <;> try (exfalso; omega))
      | (with_reducible refine WR.ne (by omega) (by omega) (fun _ => ?_) (fun _ => ?_) <;> try (exfalso; omega))
      | with_reducible refine WR.lt0 (by omega) ?_
      | with_reducible refine WR.ge0 (by omega) ?_
      | (with_reducible refine WR.bz (fun _ => ?_) (fun _ => ?_))
      | (with_reducible refine WR.bn (fun _ => ?_) (fun _ => ?_))
      | (with_reducible refine WR.br (fun _ => ?_) (fun _ => ?_) <;> try contradiction)
      | refine WR.gik hz rfl (by with_reducible assumption) ?_
      | refine WR.gi hz rfl ?_
      | refine WR.gr hz rfl rfl ?_
      | refine WR.addn rfl (by with_reducible rfl) (by with_reducible rfl) ?_
      | refine WR.muln rfl (by with_reducible rfl) (by with_reducible rfl) ?_
      | refine WR.subn rfl (by with_reducible rfl) (by with_reducible rfl) (by omega) ?_
      | (refine WR.incn rfl rfl ?_; dsimp only [List.set])
      | (refine WR.go rfl rfl ?_; try dsimp only [List.set])
      | refine WR.aik hz rfl rfl rfl rfl (by first | with_reducible rfl | with_reducible assumption) (by omega) (by with_reducible assumption) ?_
      | refine WR.ai hz rfl rfl rfl rfl (by first | with_reducible rfl | with_reducible assumption) (by omega) ?_
      | refine WR.si hz rfl rfl rfl rfl (by first | with_reducible rfl | with_reducible assumption) (by omega) ?_
      | refine WR.az hz rfl rfl rfl rfl (by first | with_reducible rfl | with_reducible assumption) (by omega) ?_
      | refine WR.sz hz rfl rfl rfl rfl (by first | with_reducible rfl | with_reducible assumption) (by omega) (by decide) ?_
      | refine WR.pi hz rfl ?_
      | refine WR.rt rfl rfl rfl rfl ?_
      | refine WR.rz rfl rfl (by decide) ?_)
  · rename_i h; exact ⟨by rw [f_oRef, if_pos h], rfl⟩
  · rename_i h; exact ⟨by rw [f_oRef, if_neg h], rfl⟩
def f_oFet (I : xI) (r : Nat) : xI := if I 83 r ≤ I 74 33 then I else f_ml I (nI 8) r (I 74 31) (nI 0) (I 83 r) (nI 0)
set_option maxHeartbeats 1000000 in
theorem r_rec7 (d : Nat) (I : xI) {r : Nat} (hr : r < 5) (hw : f_wok I) (hz : zok Z) : ER Z (d + 2) 117 I [.ref 74, .int (nI 7), .int (nI r)] (fun I' v => I' = f_oFet I r ∧ v = none) := by
  refine ER.of (ls := [some (.ref 74), some (.int (nI 7)), some (.int (nI r))]) rfl rfl ?_
  iterate 1 (first
      | (with_reducible refine WR.lt (by omega) (by omega) (fun _ => ?_) (fun _ => ?_) <;> try (exfalso; omega))
      | (with_reducible refine WR.le (by omega) (by omega) (fun _ => ?_) (fun _ => ?_) <;> try (exfalso; omega))
      | (with_reducible refine WR.eq (by omega) (by omega) (fun _ => ?_) (fun _ => ?_) <;> try (exfalso; omega))
      | (with_reducible refine WR.ne (by omega) (by omega) (fun _ => ?_) (fun _ => ?_) <;> try (exfalso; omega))
      | with_reducible refine WR.lt0 (by omega) ?_
      | with_reducible refine WR.ge0 (by omega) ?_
      | (with_reducible refine WR.bz (fun _ => ?_) (fun _ => ?_))
      | (with_reducible refine WR.bn (fun _ => ?_) (fun _ => ?_))
      | (with_reducible refine WR.br (fun _ => ?_) (fun _ => ?_) <;> try contradiction)
      | refine WR.gik hz rfl (by with_reducible assumption) ?_
      | refine WR.gi hz rfl ?_
      | refine WR.gr hz rfl rfl ?_
      | refine WR.addn rfl (by with_reducible rfl) (by with_reducible rfl) ?_
      | refine WR.muln rfl (by with_reducible rfl) (by with_reducible rfl) ?_
      | refine WR.subn rfl (by with_reducible rfl) (by with_reducible rfl) (by omega) ?_
      | (refine WR.incn rfl rfl ?_; dsimp only [List.set])
      | (refine WR.go rfl rfl ?_; try dsimp only [List.set])
      | refine WR.aik hz rfl rfl rfl rfl (by first | with_reducible rfl | with_reducible assumption) (by omega) (by with_reducible assumption) ?_
      | refine WR.ai hz rfl rfl rfl rfl (by first | with_reducible rfl | with_reducible assumption) (by omega) ?_
      | refine WR.si hz rfl rfl rfl rfl (by first | with_reducible rfl | with_reducible assumption) (by omega) ?_
      | refine WR.az hz rfl rfl rfl rfl (by first | with_reducible rfl | with_reducible assumption) (by omega) ?_
      | refine WR.sz hz rfl rfl rfl rfl (by first | with_reducible rfl | with_reducible assumption) (by omega) (by decide) ?_
      | refine WR.pi hz rfl ?_
      | refine WR.rt rfl rfl rfl rfl ?_
      | refine WR.rz rfl rfl (by decide) ?_)
  refine WR.ts rfl (by decide) rfl ?_
  iterate 8 (first
      | (with_reducible refine WR.lt (by omega) (by omega) (fun _ => ?_) (fun _ => ?_) <;> try (exfalso; omega))
      | (with_reducible refine WR.le (by omega) (by omega) (fun _ => ?_) (fun _ => ?_) <;> try (exfalso; omega))
      | (with_reducible refine WR.eq (by omega) (by omega) (fun _ => ?_) (fun _ => ?_) <;> try (exfalso; omega))
      | (with_reducible refine WR.ne (by omega) (by omega) (fun _ => ?_) (fun _ => ?_) <;> try (exfalso; omega))
      | with_reducible refine WR.lt0 (by omega) ?_
      | with_reducible refine WR.ge0 (by omega) ?_
      | (with_reducible refine WR.bz (fun _ => ?_) (fun _ => ?_))
      | (with_reducible refine WR.bn (fun _ => ?_) (fun _ => ?_))
      | (with_reducible refine WR.br (fun _ => ?_) (fun _ => ?_) <;> try contradiction)
      | refine WR.gik hz rfl (by with_reducible assumption) ?_
      | refine WR.gi hz rfl ?_
      | refine WR.gr hz rfl rfl ?_
      | refine WR.addn rfl (by with_reducible rfl) (by with_reducible rfl) ?_
      | refine WR.muln rfl (by with_reducible rfl) (by with_reducible rfl) ?_
      | refine WR.subn rfl (by with_reducible rfl) (by with_reducible rfl) (by omega) ?_
      | (refine WR.incn rfl rfl ?_; dsimp only [List.set])
      | (refine WR.go rfl rfl ?_; try dsimp only [List.set])
      | refine WR.aik hz rfl rfl rfl rfl (by first | with_reducible rfl | with_reducible assumption) (by omega) (by with_reducible assumption) ?_
      | refine WR.ai hz rfl rfl rfl rfl (by first | with_reducible rfl | with_reducible assumption) (by omega) ?_
      | refine WR.si hz rfl rfl rfl rfl (by first | with_reducible rfl | with_reducible assumption) (by omega) ?_
      | refine WR.az hz rfl rfl rfl rfl (by first | with_reducible rfl | with_reducible assumption) (by omega) ?_
      | refine WR.sz hz rfl rfl rfl rfl (by first | with_reducible rfl | with_reducible assumption) (by omega) (by decide) ?_
      | refine WR.pi hz rfl ?_
      | refine WR.rt rfl rfl rfl rfl ?_
      | refine WR.rz rfl rfl (by decide) ?_)
  · rename_i h
    iterate 1 (first
      | (with_reducible refine WR.lt (by omega) (by omega) (fun _ => ?_) (fun _ => ?_) <;> try (exfalso; omega))
      | (with_reducible refine WR.le (by omega) (by omega) (fun _ => ?_) (fun _ => ?_) <;> try (exfalso; omega))
      | (with_reducible refine WR.eq (by omega) (by omega) (fun _ => ?_) (fun _ => ?_) <;> try (exfalso; omega))
      | (with_reducible refine WR.ne (by omega) (by omega) (fun _ => ?_) (fun _ => ?_) <;> try (exfalso; omega))
      | with_reducible refine WR.lt0 (by omega) ?_
      | with_reducible refine WR.ge0 (by omega) ?_
      | (with_reducible refine WR.bz (fun _ => ?_) (fun _ => ?_))
      | (with_reducible refine WR.bn (fun _ => ?_) (fun _ => ?_))
      | (with_reducible refine WR.br (fun _ => ?_) (fun _ => ?_) <;> try contradiction)
      | refine WR.gik hz rfl (by with_reducible assumption) ?_
      | refine WR.gi hz rfl ?_
      | refine WR.gr hz rfl rfl ?_
      | refine WR.addn rfl (by with_reducible rfl) (by with_reducible rfl) ?_
      | refine WR.muln rfl (by with_reducible rfl) (by with_reducible rfl) ?_
      | refine WR.subn rfl (by with_reducible rfl) (by with_reducible rfl) (by omega) ?_
      | (refine WR.incn rfl rfl ?_; dsimp only [List.set])
      | (refine WR.go rfl rfl ?_; try dsimp only [List.set])
      | refine WR.aik hz rfl rfl rfl rfl (by first | with_reducible rfl | with_reducible assumption) (by omega) (by with_reducible assumption) ?_
      | refine WR.ai hz rfl rfl rfl rfl (by first | with_reducible rfl | with_reducible assumption) (by omega) ?_
      | refine WR.si hz rfl rfl rfl rfl (by first | with_reducible rfl | with_reducible assumption) (by omega) ?_
      | refine WR.az hz rfl rfl rfl rfl (by first | with_reducible rfl | with_reducible assumption) (by omega) ?_
      | refine WR.sz hz rfl rfl rfl rfl (by first | with_reducible rfl | with_reducible assumption) (by omega) (by decide) ?_
      | refine WR.pi hz rfl ?_
      | refine WR.rt rfl rfl rfl rfl ?_
      | refine WR.rz rfl rfl (by decide) ?_)
    exact ⟨by rw [f_oFet, if_pos h], rfl⟩
  · rename_i h
    repeat' ((with_reducible fail_if_success show WR _ _ _ 148 _ _ _ _); (first
      | (with_reducible refine WR.lt (by omega) (by omega) (fun _ => ?_) (fun _ => ?_) <;> try (exfalso; omega))
      | (with_reducible refine WR.le (by omega) (by omega) (fun _ => ?_) (fun _ => ?_) <;> try (exfalso; omega))
      | (with_reducible refine WR.eq (by omega) (by omega) (fun _ => ?_) (fun _ => ?_) <;> try (exfalso; omega))
      | (with_reducible refine WR.ne (by omega) (by omega) (fun _ => ?_) (fun _ => ?_) <;> try (exfalso; omega))
      | with_reducible refine WR.lt0 (by omega) ?_
      | with_reducible refine WR.ge0 (by omega) ?_
      | (with_reducible refine WR.bz (fun _ => ?_) (fun _ => ?_))
      | (with_reducible refine WR.bn (fun _ => ?_) (fun _ => ?_))
      | (with_reducible refine WR.br (fun _ => ?_) (fun _ => ?_) <;> try contradiction)
      | refine WR.gik hz rfl (by with_reducible assumption) ?_
      | refine WR.gi hz rfl ?_
      | refine WR.gr hz rfl rfl ?_
      | refine WR.addn rfl (by with_reducible rfl) (by with_reducible rfl) ?_
      | refine WR.muln rfl (by with_reducible rfl) (by with_reducible rfl) ?_
      | refine WR.subn rfl (by with_reducible rfl) (by with_reducible rfl) (by omega) ?_
      | (refine WR.incn rfl rfl ?_; dsimp only [List.set])
      | (refine WR.go rfl rfl ?_; try dsimp only [List.set])
      | refine WR.aik hz rfl rfl rfl rfl (by first | with_reducible rfl | with_reducible assumption) (by omega) (by with_reducible assumption) ?_
      | refine WR.ai hz rfl rfl rfl rfl (by first | with_reducible rfl | with_reducible assumption) (by omega) ?_
      | refine WR.si hz rfl rfl rfl rfl (by first | with_reducible rfl | with_reducible assumption) (by omega) ?_
      | refine WR.az hz rfl rfl rfl rfl (by first | with_reducible rfl | with_reducible assumption) (by omega) ?_
      | refine WR.sz hz rfl rfl rfl rfl (by first | with_reducible rfl | with_reducible assumption) (by omega) (by decide) ?_
      | refine WR.pi hz rfl ?_
      | refine WR.rt rfl rfl rfl rfl ?_
      | refine WR.rz rfl rfl (by decide) ?_))
    refine WR.V6v hz rfl rfl (r_mail d I (nI 8) (I 74 31) (nI 0) (I 83 r) (nI 0) hr hw.1 hw.2 hz) ?_
    iterate 2 (first
      | (with_reducible refine WR.lt (by omega) (by omega) (fun _ => ?_) (fun _ => ?_) <;> try (exfalso; omega))
      | (with_reducible refine WR.le (by omega) (by omega) (fun _ => ?_) (fun _ => ?_) <;> try (exfalso; omega))
      | (with_reducible refine WR.eq (by omega) (by omega) (fun _ => ?_) (fun _ => ?_) <;> try (exfalso; omega))
      | (with_reducible refine WR.ne (by omega) (by omega) (fun _ => ?_) (fun _ => ?_) <;> try (exfalso; omega))
      | with_reducible refine WR.lt0 (by omega) ?_
      | with_reducible refine WR.ge0 (by omega) ?_
      | (with_reducible refine WR.bz (fun _ => ?_) (fun _ => ?_))
      | (with_reducible refine WR.bn (fun _ => ?_) (fun _ => ?_))
      | (with_reducible refine WR.br (fun _ => ?_) (fun _ => ?_) <;> try contradiction)
      | refine WR.gik hz rfl (by with_reducible assumption) ?_
      | refine WR.gi hz rfl ?_
      | refine WR.gr hz rfl rfl ?_
      | refine WR.addn rfl (by with_reducible rfl) (by with_reducible rfl) ?_
      | refine WR.muln rfl (by with_reducible rfl) (by with_reducible rfl) ?_
      | refine WR.subn rfl (by with_reducible rfl) (by with_reducible rfl) (by omega) ?_
      | (refine WR.incn rfl rfl ?_; dsimp only [List.set])
      | (refine WR.go rfl rfl ?_; try dsimp only [List.set])
      | refine WR.aik hz rfl rfl rfl rfl (by first | with_reducible rfl | with_reducible assumption) (by omega) (by with_reducible assumption) ?_
      | refine WR.ai hz rfl rfl rfl rfl (by first | with_reducible rfl | with_reducible assumption) (by omega) ?_
      | refine WR.si hz rfl rfl rfl rfl (by first | with_reducible rfl | with_reducible assumption) (by omega) ?_
      | refine WR.az hz rfl rfl rfl rfl (by first | with_reducible rfl | with_reducible assumption) (by omega) ?_
      | refine WR.sz hz rfl rfl rfl rfl (by first | with_reducible rfl | with_reducible assumption) (by omega) (by decide) ?_
      | refine WR.pi hz rfl ?_
      | refine WR.rt rfl rfl rfl rfl ?_
      | refine WR.rz rfl rfl (by decide) ?_)
    exact ⟨by rw [f_oFet, if_neg h]; rfl, rfl⟩
def f_oSta (I : xI) (r f e : Nat) : xI := f_go (f_inst I r f) r (f_ie I r f e)
set_option maxHeartbeats 1000000 in
theorem r_rec8 (d : Nat) (I : xI) {r f e : Nat} (hr : r < 5) (hu : I 74 33 = nI f) (hf2 : f ≤ 24) (he : I 83 r = nI e) (he2 : e ≤ 24) (hf : f_wf I) (hw : f_wok I) (hz : zok Z) : ER Z (d + 6) 117 I [.ref 74, .int (nI 8), .int (nI r)] (fun I' v => I' = f_oSta I r f e ∧ v = none) := by
  refine ER.of (ls := [some (.ref 74), some (.int (nI 8)), some (.int (nI r))]) rfl rfl ?_
  iterate 1 (first
      | (with_reducible refine WR.lt (by omega) (by omega) (fun _ => ?_) (fun _ => ?_) <;> try (exfalso; omega))
      | (with_reducible refine WR.le (by omega) (by omega) (fun _ => ?_) (fun _ => ?_) <;> try (exfalso; omega))
      | (with_reducible refine WR.eq (by omega) (by omega) (fun _ => ?_) (fun _ => ?_) <;> try (exfalso; omega))
      | (with_reducible refine WR.ne (by omega) (by omega) (fun _ => ?_) (fun _ => ?_) <;> try (exfalso; omega))
      | with_reducible refine WR.lt0 (by omega) ?_
      | with_reducible refine WR.ge0 (by omega) ?_
      | (with_reducible refine WR.bz (fun _ => ?_) (fun _ => ?_))
      | (with_reducible refine WR.bn (fun _ => ?_) (fun _ => ?_))
      | (with_reducible refine WR.br (fun _ => ?_) (fun _ => ?_) <;> try contradiction)
      | refine WR.gik hz rfl (by with_reducible assumption) ?_
      | refine WR.gi hz rfl ?_
      | refine WR.gr hz rfl rfl ?_
      | refine WR.addn rfl (by with_reducible rfl) (by with_reducible rfl) ?_
      | refine WR.muln rfl (by with_reducible rfl) (by with_reducible rfl) ?_
      | refine WR.subn rfl (by with_reducible rfl) (by with_reducible rfl) (by omega) ?_
      | (refine WR.incn rfl rfl ?_; dsimp only [List.set])
      | (refine WR.go rfl rfl ?_; try dsimp only [List.set])
      | refine WR.aik hz rfl rfl rfl rfl (by first | with_reducible rfl | with_reducible assumption) (by omega) (by with_reducible assumption) ?_
      | refine WR.ai hz rfl rfl rfl rfl (by first | with_reducible rfl | with_reducible assumption) (by omega) ?_
      | refine WR.si hz rfl rfl rfl rfl (by first | with_reducible rfl | with_reducible assumption) (by omega) ?_
      | refine WR.az hz rfl rfl rfl rfl (by first | with_reducible rfl | with_reducible assumption) (by omega) ?_
      | refine WR.sz hz rfl rfl rfl rfl (by first | with_reducible rfl | with_reducible assumption) (by omega) (by decide) ?_
      | refine WR.pi hz rfl ?_
      | refine WR.rt rfl rfl rfl rfl ?_
      | refine WR.rz rfl rfl (by decide) ?_)
  refine WR.ts rfl (by decide) rfl ?_
  iterate 4 (first
      | (with_reducible refine WR.lt (by omega) (by omega) (fun _ => ?_) (fun _ => ?_) <;> try (exfalso; omega))
      | (with_reducible refine WR.le (by omega) (by omega) (fun _ => ?_) (fun _ => ?_) <;> try (exfalso; omega))
      | (with_reducible refine WR.eq (by omega) (by omega) (fun _ => ?_) (fun _ => ?_) <;> try (exfalso; omega))
      | (with_reducible refine WR.ne (by omega) (by omega) (fun _ => ?_) (fun _ => ?_) <;> try (exfalso; omega))
      | with_reducible refine WR.lt0 (by omega) ?_
      | with_reducible refine WR.ge0 (by omega) ?_
      | (with_reducible refine WR.bz (fun _ => ?_) (fun _ => ?_))
      | (with_reducible refine WR.bn (fun _ => ?_) (fun _ => ?_))
      | (with_reducible refine WR.br (fun _ => ?_) (fun _ => ?_) <;> try contradiction)
      | refine WR.gik hz rfl (by with_reducible assumption) ?_
      | refine WR.gi hz rfl ?_
      | refine WR.gr hz rfl rfl ?_
      | refine WR.addn rfl (by with_reducible rfl) (by with_reducible rfl) ?_
      | refine WR.muln rfl (by with_reducible rfl) (by with_reducible rfl) ?_
      | refine WR.subn rfl (by with_reducible rfl) (by with_reducible rfl) (by omega) ?_
      | (refine WR.incn rfl rfl ?_; dsimp only [List.set])
      | (refine WR.go rfl rfl ?_; try dsimp only [List.set])
      | refine WR.aik hz rfl rfl rfl rfl (by first | with_reducible rfl | with_reducible assumption) (by omega) (by with_reducible assumption) ?_
      | refine WR.ai hz rfl rfl rfl rfl (by first | with_reducible rfl | with_reducible assumption) (by omega) ?_
      | refine WR.si hz rfl rfl rfl rfl (by first | with_reducible rfl | with_reducible assumption) (by omega) ?_
      | refine WR.az hz rfl rfl rfl rfl (by first | with_reducible rfl | with_reducible assumption) (by omega) ?_
      | refine WR.sz hz rfl rfl rfl rfl (by first | with_reducible rfl | with_reducible assumption) (by omega) (by decide) ?_
      | refine WR.pi hz rfl ?_
      | refine WR.rt rfl rfl rfl rfl ?_
      | refine WR.rz rfl rfl (by decide) ?_)
  refine WR.V2v hz rfl rfl (r_install (d + 3) I hr hf2 hz) ?_
  iterate 2 (first
      | (with_reducible refine WR.lt (by omega) (by omega) (fun _ => ?_) (fun _ => ?_) <;> try (exfalso; omega))
      | (with_reducible refine WR.le (by omega) (by omega) (fun _ => ?_) (fun _ => ?_) <;> try (exfalso; omega))
      | (with_reducible refine WR.eq (by omega) (by omega) (fun _ => ?_) (fun _ => ?_) <;> try (exfalso; omega))
      | (with_reducible refine WR.ne (by omega) (by omega) (fun _ => ?_) (fun _ => ?_) <;> try (exfalso; omega))
      | with_reducible refine WR.lt0 (by omega) ?_
      | with_reducible refine WR.ge0 (by omega) ?_
      | (with_reducible refine WR.bz (fun _ => ?_) (fun _ => ?_))
      | (with_reducible refine WR.bn (fun _ => ?_) (fun _ => ?_))
      | (with_reducible refine WR.br (fun _ => ?_) (fun _ => ?_) <;> try contradiction)
      | refine WR.gik hz rfl (by with_reducible assumption) ?_
      | refine WR.gi hz rfl ?_
      | refine WR.gr hz rfl rfl ?_
      | refine WR.addn rfl (by with_reducible rfl) (by with_reducible rfl) ?_
      | refine WR.muln rfl (by with_reducible rfl) (by with_reducible rfl) ?_
      | refine WR.subn rfl (by with_reducible rfl) (by with_reducible rfl) (by omega) ?_
      | (refine WR.incn rfl rfl ?_; dsimp only [List.set])
      | (refine WR.go rfl rfl ?_; try dsimp only [List.set])
      | refine WR.aik hz rfl rfl rfl rfl (by first | with_reducible rfl | with_reducible assumption) (by omega) (by with_reducible assumption) ?_
      | refine WR.ai hz rfl rfl rfl rfl (by first | with_reducible rfl | with_reducible assumption) (by omega) ?_
      | refine WR.si hz rfl rfl rfl rfl (by first | with_reducible rfl | with_reducible assumption) (by omega) ?_
      | refine WR.az hz rfl rfl rfl rfl (by first | with_reducible rfl | with_reducible assumption) (by omega) ?_
      | refine WR.sz hz rfl rfl rfl rfl (by first | with_reducible rfl | with_reducible assumption) (by omega) (by decide) ?_
      | refine WR.pi hz rfl ?_
      | refine WR.rt rfl rfl rfl rfl ?_
      | refine WR.rz rfl rfl (by decide) ?_)
  have hie : f_ie I r f e ≤ 24 := by rw [f_ie]; split <;> omega
  refine WR.V1v hz rfl rfl (r_goOn d _ hr (f_inst_e he) hie (f_inst_f r f hf) (f_inst_w r f hw) hz) ?_
  iterate 1 (first
      | (with_reducible refine WR.lt (by omega) (by omega) (fun _ => ?_) (fun _ => ?_) <;> try (exfalso; omega))
      | (with_reducible refine WR.le (by omega) (by omega) (fun _ => ?_) (fun _ => ?_) <;> try (exfalso; omega))
      | (with_reducible refine WR.eq (by omega) (by omega) (fun _ => ?_) (fun _ => ?_) <;> try (exfalso; omega))
      | (with_reducible refine WR.ne (by omega) (by omega) (fun _ => ?_) (fun _ => ?_) <;> try (exfalso; omega))
      | with_reducible refine WR.lt0 (by omega) ?_
      | with_reducible refine WR.ge0 (by omega) ?_
      | (with_reducible refine WR.bz (fun _ => ?_) (fun _ => ?_))
      | (with_reducible refine WR.bn (fun _ => ?_) (fun _ => ?_))
      | (with_reducible refine WR.br (fun _ => ?_) (fun _ => ?_) <;> try contradiction)
      | refine WR.gik hz rfl (by with_reducible assumption) ?_
      | refine WR.gi hz rfl ?_
      | refine WR.gr hz rfl rfl ?_
      | refine WR.addn rfl (by with_reducible rfl) (by with_reducible rfl) ?_
      | refine WR.muln rfl (by with_reducible rfl) (by with_reducible rfl) ?_
      | refine WR.subn rfl (by with_reducible rfl) (by with_reducible rfl) (by omega) ?_
      | (refine WR.incn rfl rfl ?_; dsimp only [List.set])
      | (refine WR.go rfl rfl ?_; try dsimp only [List.set])
      | refine WR.aik hz rfl rfl rfl rfl (by first | with_reducible rfl | with_reducible assumption) (by omega) (by with_reducible assumption) ?_
      | refine WR.ai hz rfl rfl rfl rfl (by first | with_reducible rfl | with_reducible assumption) (by omega) ?_
      | refine WR.si hz rfl rfl rfl rfl (by first | with_reducible rfl | with_reducible assumption) (by omega) ?_
      | refine WR.az hz rfl rfl rfl rfl (by first | with_reducible rfl | with_reducible assumption) (by omega) ?_
      | refine WR.sz hz rfl rfl rfl rfl (by first | with_reducible rfl | with_reducible assumption) (by omega) (by decide) ?_
      | refine WR.pi hz rfl ?_
      | refine WR.rt rfl rfl rfl rfl ?_
      | refine WR.rz rfl rfl (by decide) ?_)
  exact ⟨rfl, rfl⟩
/-- the least ballot of r above p -/
def f_bal (p r : Nat) : Nat := 5 + r + 5 * ((p - r) / 5)
def f_bg0 (I : xI) (r b : Nat) : xI := x_u (x_u (x_u I 87 r (nI b)) 81 r (nI b)) 88 r (nI 1 <<< (nI r &&& 31))
def f_bgL (J I : xI) (r m : Nat) : xI := f_fillF (f_fillF (f_fillF (f_fillF J 89 (25 * r) m (fun s => I 85 (25 * r + s))) 90 (25 * r) m (fun s => I 86 (25 * r + s))) 91 (25 * r) m (fun _ => -1)) 92 (25 * r) m (fun _ => nI 0)
def f_bg (I : xI) (r b : Nat) : xI := f_bgL (f_bg0 I r b) I r 25
set_option maxHeartbeats 4000000 in
theorem r_begin (d : Nat) (I : xI) {r p : Nat} (hr : r < 5) (hp : I 81 r = nI p) (hp2 : p ≤ 400000) (hz : zok Z) : ER Z (d + 1) 113 I [.ref 74, .int (nI r)] (fun I' v => I' = f_bg I r (f_bal p r) ∧ v = none) := by
  refine ER.of (ls := [some (.ref 74), some (.int (nI r)), none, none]) rfl rfl ?_
  iterate 6 (first
      | (with_reducible refine WR.lt (by omega) (by omega) (fun _ => ?_) (fun _ => ?_) <;> try (exfalso; omega))
      | (with_reducible refine WR.le (by omega) (by omega) (fun _ => ?_) (fun _ => ?_) <;> try (exfalso; omega))
      | (with_reducible refine WR.eq (by omega) (by omega) (fun _ => ?_) (fun _ => ?_) <;> try (exfalso; omega))
      | (with_reducible refine WR.ne (by omega) (by omega) (fun _ => ?_) (fun _ => ?_) <;> try (exfalso; omega))
      | with_reducible refine WR.lt0 (by omega) ?_
      | with_reducible refine WR.ge0 (by omega) ?_
      | (with_reducible refine WR.bz (fun _ => ?_) (fun _ => ?_))
      | (with_reducible refine WR.bn (fun _ => ?_) (fun _ => ?_))
      | (with_reducible refine WR.br (fun _ => ?_) (fun _ => ?_) <;> try contradiction)
      | refine WR.gik hz rfl (by with_reducible assumption) ?_
      | refine WR.gi hz rfl ?_
      | refine WR.gr hz rfl rfl ?_
      | refine WR.addn rfl (by with_reducible rfl) (by with_reducible rfl) ?_
      | refine WR.muln rfl (by with_reducible rfl) (by with_reducible rfl) ?_
      | refine WR.subn rfl (by with_reducible rfl) (by with_reducible rfl) (by omega) ?_
      | (refine WR.incn rfl rfl ?_; dsimp only [List.set])
      | (refine WR.go rfl rfl ?_; try dsimp only [List.set])
      | refine WR.aik hz rfl rfl rfl rfl (by first | with_reducible rfl | with_reducible assumption) (by omega) (by with_reducible assumption) ?_
      | refine WR.ai hz rfl rfl rfl rfl (by first | with_reducible rfl | with_reducible assumption) (by omega) ?_
      | refine WR.si hz rfl rfl rfl rfl (by first | with_reducible rfl | with_reducible assumption) (by omega) ?_
      | refine WR.az hz rfl rfl rfl rfl (by first | with_reducible rfl | with_reducible assumption) (by omega) ?_
      | refine WR.sz hz rfl rfl rfl rfl (by first | with_reducible rfl | with_reducible assumption) (by omega) (by decide) ?_
      | refine WR.pi hz rfl ?_
      | refine WR.rt rfl rfl rfl rfl ?_
      | refine WR.rz rfl rfl (by decide) ?_)
  refine WR.loop (fun _ => I) (fun m => [some (.ref 74), some (.int (nI r)), some (.int (nI (5 + r + 5 * m))), some (.int (nI m))]) ((p - r) / 5) ?_ (fun m hm hk => ?_) ((p - r) / 5) 0 (by omega)
  · have hb : 5 + r + 5 * ((p - r) / 5) = f_bal p r := rfl
    rw [hb]
    have hb2 : p < f_bal p r ∧ f_bal p r < 400100 := by rw [f_bal]; omega
    generalize f_bal p r = b at hb2
    clear hb
    repeat' ((with_reducible fail_if_success show WR _ _ _ 59 _ _ _ _); (first
      | (with_reducible refine WR.lt (by omega) (by omega) (fun _ => ?_) (fun _ => ?_) <;> try (exfalso; omega))
      | (with_reducible refine WR.le (by omega) (by omega) (fun _ => ?_) (fun _ => ?_) <;> try (exfalso; omega))
      | (with_reducible refine WR.eq (by omega) (by omega) (fun _ => ?_) (fun _ => ?_) <;> try (exfalso; omega))
      | (with_reducible refine WR.ne (by omega) (by omega) (fun _ => ?_) (fun _ => ?_) <;> try (exfalso; omega))
      | with_reducible refine WR.lt0 (by omega) ?_
      | with_reducible refine WR.ge0 (by omega) ?_
      | (with_reducible refine WR.bz (fun _ => ?_) (fun _ => ?_))
      | (with_reducible refine WR.bn (fun _ => ?_) (fun _ => ?_))
      | (with_reducible refine WR.br (fun _ => ?_) (fun _ => ?_) <;> try contradiction)
      | refine WR.gik hz rfl (by with_reducible assumption) ?_
      | refine WR.gi hz rfl ?_
      | refine WR.gr hz rfl rfl ?_
      | refine WR.addn rfl (by with_reducible rfl) (by with_reducible rfl) ?_
      | refine WR.muln rfl (by with_reducible rfl) (by with_reducible rfl) ?_
      | refine WR.subn rfl (by with_reducible rfl) (by with_reducible rfl) (by omega) ?_
      | (refine WR.incn rfl rfl ?_; dsimp only [List.set])
      | (refine WR.go rfl rfl ?_; try dsimp only [List.set])
      | refine WR.aik hz rfl rfl rfl rfl (by first | with_reducible rfl | with_reducible assumption) (by omega) (by with_reducible assumption) ?_
      | refine WR.ai hz rfl rfl rfl rfl (by first | with_reducible rfl | with_reducible assumption) (by omega) ?_
      | refine WR.si hz rfl rfl rfl rfl (by first | with_reducible rfl | with_reducible assumption) (by omega) ?_
      | refine WR.az hz rfl rfl rfl rfl (by first | with_reducible rfl | with_reducible assumption) (by omega) ?_
      | refine WR.sz hz rfl rfl rfl rfl (by first | with_reducible rfl | with_reducible assumption) (by omega) (by decide) ?_
      | refine WR.pi hz rfl ?_
      | refine WR.rt rfl rfl rfl rfl ?_
      | refine WR.rz rfl rfl (by decide) ?_))
    show WR Z d 113 59 _ _ (f_bg0 I r b) _
    have h85 : ∀ s, f_bg0 I r b 85 s = I 85 s := fun s => by rw [f_bg0, x_u_ne _ _ (by omega), x_u_ne _ _ (by omega), x_u_ne _ _ (by omega)]
    have h86 : ∀ s, f_bg0 I r b 86 s = I 86 s := fun s => by rw [f_bg0, x_u_ne _ _ (by omega), x_u_ne _ _ (by omega), x_u_ne _ _ (by omega)]
    generalize hJ : f_bg0 I r b = J at h85 h86
    refine WR.cast (by rw [f_bgL, f_fillF0, f_fillF0, f_fillF0, f_fillF0]) (WR.loop (fun m => f_bgL J I r m) (fun m => [some (.ref 74), some (.int (nI r)), some (.int (nI b)), some (.int (nI (25 * r + m)))]) 25 ?_ (fun m hm hk => ?_) 25 0 rfl)
    · repeat' (first
      | (with_reducible refine WR.lt (by omega) (by omega) (fun _ => ?_) (fun _ => ?_) <;> try (exfalso; omega))
      | (with_reducible refine WR.le (by omega) (by omega) (fun _ => ?_) (fun _ => ?_) <;> try (exfalso; omega))
      | (with_reducible refine WR.eq (by omega) (by omega) (fun _ => ?_) (fun _ => ?_) <;> try (exfalso; omega))
      | (with_reducible refine WR.ne (by omega) (by omega) (fun _ => ?_) (fun _ => ?_) <;> try (exfalso; omega))
      | with_reducible refine WR.lt0 (by omega) ?_
      | with_reducible refine WR.ge0 (by omega) ?_
      | (with_reducible refine WR.bz (fun _ => ?_) (fun _ => ?_))
      | (with_reducible refine WR.bn (fun _ => ?_) (fun _ => ?_))
      | (with_reducible refine WR.br (fun _ => ?_) (fun _ => ?_) <;> try contradiction)
      | refine WR.gik hz rfl (by with_reducible assumption) ?_
      | refine WR.gi hz rfl ?_
      | refine WR.gr hz rfl rfl ?_
      | refine WR.addn rfl (by with_reducible rfl) (by with_reducible rfl) ?_
      | refine WR.muln rfl (by with_reducible rfl) (by with_reducible rfl) ?_
      | refine WR.subn rfl (by with_reducible rfl) (by with_reducible rfl) (by omega) ?_
      | (refine WR.incn rfl rfl ?_; dsimp only [List.set])
      | (refine WR.go rfl rfl ?_; try dsimp only [List.set])
      | refine WR.aik hz rfl rfl rfl rfl (by first | with_reducible rfl | with_reducible assumption) (by omega) (by with_reducible assumption) ?_
      | refine WR.ai hz rfl rfl rfl rfl (by first | with_reducible rfl | with_reducible assumption) (by omega) ?_
      | refine WR.si hz rfl rfl rfl rfl (by first | with_reducible rfl | with_reducible assumption) (by omega) ?_
      | refine WR.az hz rfl rfl rfl rfl (by first | with_reducible rfl | with_reducible assumption) (by omega) ?_
      | refine WR.sz hz rfl rfl rfl rfl (by first | with_reducible rfl | with_reducible assumption) (by omega) (by decide) ?_
      | refine WR.pi hz rfl ?_
      | refine WR.rt rfl rfl rfl rfl ?_
      | refine WR.rz rfl rfl (by decide) ?_)
      exact ⟨by rw [f_bg, hJ], rfl⟩
    · have e85 : f_bgL J I r m 85 (25 * r + m) = I 85 (25 * r + m) := by rw [f_bgL, f_fillF_o _ _ _ _ _ (by decide), f_fillF_o _ _ _ _ _ (by decide), f_fillF_o _ _ _ _ _ (by decide), f_fillF_o _ _ _ _ _ (by decide), h85]
      have e86 : x_u (f_bgL J I r m) 89 (25 * r + m) (I 85 (25 * r + m)) 86 (25 * r + m) = I 86 (25 * r + m) := by rw [x_u_ne _ _ (by omega), f_bgL, f_fillF_o _ _ _ _ _ (by decide), f_fillF_o _ _ _ _ _ (by decide), f_fillF_o _ _ _ _ _ (by decide), f_fillF_o _ _ _ _ _ (by decide), h86]
      repeat' (first | with_reducible refine WR.cast ?_ hk | (first
      | (with_reducible refine WR.lt (by omega) (by omega) (fun _ => ?_) (fun _ => ?_) <;> try (exfalso; omega))
      | (with_reducible refine WR.le (by omega) (by omega) (fun _ => ?_) (fun _ => ?_) <;> try (exfalso; omega))
      | (with_reducible refine WR.eq (by omega) (by omega) (fun _ => ?_) (fun _ => ?_) <;> try (exfalso; omega))
      | (with_reducible refine WR.ne (by omega) (by omega) (fun _ => ?_) (fun _ => ?_) <;> try (exfalso; omega))
      | with_reducible refine WR.lt0 (by omega) ?_
      | with_reducible refine WR.ge0 (by omega) ?_
      | (with_reducible refine WR.bz (fun _ => ?_) (fun _ => ?_))
      | (with_reducible refine WR.bn (fun _ => ?_) (fun _ => ?_))
      | (with_reducible refine WR.br (fun _ => ?_) (fun _ => ?_) <;> try contradiction)
      | refine WR.gik hz rfl (by with_reducible assumption) ?_
      | refine WR.gi hz rfl ?_
      | refine WR.gr hz rfl rfl ?_
      | refine WR.addn rfl (by with_reducible rfl) (by with_reducible rfl) ?_
      | refine WR.muln rfl (by with_reducible rfl) (by with_reducible rfl) ?_
      | refine WR.subn rfl (by with_reducible rfl) (by with_reducible rfl) (by omega) ?_
      | (refine WR.incn rfl rfl ?_; dsimp only [List.set])
      | (refine WR.go rfl rfl ?_; try dsimp only [List.set])
      | refine WR.aik hz rfl rfl rfl rfl (by first | with_reducible rfl | with_reducible assumption) (by omega) (by with_reducible assumption) ?_
      | refine WR.ai hz rfl rfl rfl rfl (by first | with_reducible rfl | with_reducible assumption) (by omega) ?_
      | refine WR.si hz rfl rfl rfl rfl (by first | with_reducible rfl | with_reducible assumption) (by omega) ?_
      | refine WR.az hz rfl rfl rfl rfl (by first | with_reducible rfl | with_reducible assumption) (by omega) ?_
      | refine WR.sz hz rfl rfl rfl rfl (by first | with_reducible rfl | with_reducible assumption) (by omega) (by decide) ?_
      | refine WR.pi hz rfl ?_
      | refine WR.rt rfl rfl rfl rfl ?_
      | refine WR.rz rfl rfl (by decide) ?_))
      rw [f_bgL, f_push _ 92 89 (by decide), f_push _ 91 89 (by decide), f_push _ 90 89 (by decide), f_push _ 92 90 (by decide), f_push _ 91 90 (by decide), f_push _ 92 91 (by decide), f_fillFS _ _ _ _ _ rfl, f_fillFS _ _ _ _ _ rfl, f_fillFS _ _ _ _ _ rfl, f_fillFS _ _ _ _ _ rfl]
      rfl
  · repeat' (first | with_reducible refine WR.cast ?_ hk | (first
      | (with_reducible refine WR.lt (by omega) (by omega) (fun _ => ?_) (fun _ => ?_) <;> try (exfalso; omega))
      | (with_reducible refine WR.le (by omega) (by omega) (fun _ => ?_) (fun _ => ?_) <;> try (exfalso; omega))
      | (with_reducible refine WR.eq (by omega) (by omega) (fun _ => ?_) (fun _ => ?_) <;> try (exfalso; omega))
      | (with_reducible refine WR.ne (by omega) (by omega) (fun _ => ?_) (fun _ => ?_) <;> try (exfalso; omega))
      | with_reducible refine WR.lt0 (by omega) ?_
      | with_reducible refine WR.ge0 (by omega) ?_
      | (with_reducible refine WR.bz (fun _ => ?_) (fun _ => ?_))
      | (with_reducible refine WR.bn (fun _ => ?_) (fun _ => ?_))
      | (with_reducible refine WR.br (fun _ => ?_) (fun _ => ?_) <;> try contradiction)
      | refine WR.gik hz rfl (by with_reducible assumption) ?_
      | refine WR.gi hz rfl ?_
      | refine WR.gr hz rfl rfl ?_
      | refine WR.addn rfl (by with_reducible rfl) (by with_reducible rfl) ?_
      | refine WR.muln rfl (by with_reducible rfl) (by with_reducible rfl) ?_
      | refine WR.subn rfl (by with_reducible rfl) (by with_reducible rfl) (by omega) ?_
      | (refine WR.incn rfl rfl ?_; dsimp only [List.set])
      | (refine WR.go rfl rfl ?_; try dsimp only [List.set])
      | refine WR.aik hz rfl rfl rfl rfl (by first | with_reducible rfl | with_reducible assumption) (by omega) (by with_reducible assumption) ?_
      | refine WR.ai hz rfl rfl rfl rfl (by first | with_reducible rfl | with_reducible assumption) (by omega) ?_
      | refine WR.si hz rfl rfl rfl rfl (by first | with_reducible rfl | with_reducible assumption) (by omega) ?_
      | refine WR.az hz rfl rfl rfl rfl (by first | with_reducible rfl | with_reducible assumption) (by omega) ?_
      | refine WR.sz hz rfl rfl rfl rfl (by first | with_reducible rfl | with_reducible assumption) (by omega) (by decide) ?_
      | refine WR.pi hz rfl ?_
      | refine WR.rt rfl rfl rfl rfl ?_
      | refine WR.rz rfl rfl (by decide) ?_))
    · rfl
end RECB
