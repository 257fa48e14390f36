/-! the reference: message, look, ask -/
section PUBC
variable {Z : xZ}
set_option maxHeartbeats 1000000 in
theorem r_message0 (d : Nat) (I : xI) {i : Nat} (hw : f_wok I) (hi : i < f_w I) (hz : zok Z) : ER Z (d + 1) 134 I [.ref 74, .int (nI i), .int (nI 0)] (fun I' v => I' = I ∧ v = some (.int (I 93 i))) := by
  have hw1 := hw.1
  have hw2 := hw.2
  refine ER.of (ls := [some (.ref 74), some (.int (nI i)), some (.int (nI 0))]) rfl rfl ?_
  repeat' ((with_reducible fail_if_success show WR _ _ _ 15 _ _ _ _); (first
      | (with_reducible refine WR.lt (by omega) (by omega) (fun _ => ?_) (fun _ => ?_) <;> try (exfalso; omega))
      | (with_reducible refine WR.le (by omega) (by omega) (fun _ => ?_) (fun _ => ?_) <;> try (exfalso; omega))
      | (with_reducible refine WR.eq (by omega) (by omega) (fun _ => ?_) (fun _ => ?_) <;> try (exfalso; omega))
      | (with_reducible refine WR.ne (by omega) (by omega) (fun _ => ?_) (fun _ => ?_) <;> try (exfalso; omega))
      | with_reducible refine WR.lt0 (by omega) ?_
      | with_reducible refine WR.ge0 (by omega) ?_
      | (with_reducible refine WR.bz (fun _ => ?_) (fun _ => ?_) <;> try contradiction)
      | (with_reducible refine WR.bn (fun _ => ?_) (fun _ => ?_) <;> try contradiction)
      | (with_reducible refine WR.br (fun _ => ?_) (fun _ => ?_) <;> try contradiction)
      | refine WR.gik hz rfl (by with_reducible assumption) ?_
      | refine WR.gi hz rfl ?_
      | refine WR.gr hz rfl rfl ?_
      | refine WR.addn rfl (by with_reducible rfl) (by with_reducible rfl) ?_
      | refine WR.muln rfl (by with_reducible rfl) (by with_reducible rfl) ?_
      | refine WR.subn rfl (by with_reducible rfl) (by with_reducible rfl) (by omega) ?_
      | (refine WR.incn rfl rfl ?_; dsimp only [List.set])
      | (refine WR.go rfl rfl ?_; try dsimp only [List.set])
      | refine WR.aik hz rfl rfl rfl rfl (by first | with_reducible rfl | with_reducible assumption) (by omega) (by with_reducible assumption) ?_
      | refine WR.ai hz rfl rfl rfl rfl (by first | with_reducible rfl | with_reducible assumption) (by omega) ?_
      | refine WR.si hz rfl rfl rfl rfl (by first | with_reducible rfl | with_reducible assumption) (by omega) ?_
      | refine WR.az hz rfl rfl rfl rfl (by first | with_reducible rfl | with_reducible assumption) (by omega) ?_
      | refine WR.sz hz rfl rfl rfl rfl (by first | with_reducible rfl | with_reducible assumption) (by omega) (by decide) ?_
      | refine WR.pi hz rfl ?_
      | refine WR.rt rfl rfl rfl rfl ?_
      | refine WR.rz rfl rfl (by decide) ?_))
  refine WR.ts rfl (by decide) rfl ?_
  repeat' (first
      | (with_reducible refine WR.lt (by omega) (by omega) (fun _ => ?_) (fun _ => ?_) <;> try (exfalso; omega))
      | (with_reducible refine WR.le (by omega) (by omega) (fun _ => ?_) (fun _ => ?_) <;> try (exfalso; omega))
      | (with_reducible refine WR.eq (by omega) (by omega) (fun _ => ?_) (fun _ => ?_) <;> try (exfalso; omega))
      | (with_reducible refine WR.ne (by omega) (by omega) (fun _ => ?_) (fun _ => ?_) <;> try (exfalso; omega))
      | with_reducible refine WR.lt0 (by omega) ?_
      | with_reducible refine WR.ge0 (by omega) ?_
      | (with_reducible refine WR.bz (fun _ => ?_) (fun _ => ?_) <;> try contradiction)
      | (with_reducible refine WR.bn (fun _ => ?_) (fun _ => ?_) <;> try contradiction)
      | (with_reducible refine WR.br (fun _ => ?_) (fun _ => ?_) <;> try contradiction)
      | refine WR.gik hz rfl (by with_reducible assumption) ?_
      | refine WR.gi hz rfl ?_
      | refine WR.gr hz rfl rfl ?_
      | refine WR.addn rfl (by with_reducible rfl) (by with_reducible rfl) ?_
      | refine WR.muln rfl (by with_reducible rfl) (by with_reducible rfl) ?_
      | refine WR.subn rfl (by with_reducible rfl) (by with_reducible rfl) (by omega) ?_
      | (refine WR.incn rfl rfl ?_; dsimp only [List.set])
      | (refine WR.go rfl rfl ?_; try dsimp only [List.set])
      | refine WR.aik hz rfl rfl rfl rfl (by first | with_reducible rfl | with_reducible assumption) (by omega) (by with_reducible assumption) ?_
      | refine WR.ai hz rfl rfl rfl rfl (by first | with_reducible rfl | with_reducible assumption) (by omega) ?_
      | refine WR.si hz rfl rfl rfl rfl (by first | with_reducible rfl | with_reducible assumption) (by omega) ?_
      | refine WR.az hz rfl rfl rfl rfl (by first | with_reducible rfl | with_reducible assumption) (by omega) ?_
      | refine WR.sz hz rfl rfl rfl rfl (by first | with_reducible rfl | with_reducible assumption) (by omega) (by decide) ?_
      | refine WR.pi hz rfl ?_
      | refine WR.rt rfl rfl rfl rfl ?_
      | refine WR.rz rfl rfl (by decide) ?_)
  exact ⟨rfl, rfl⟩
set_option maxHeartbeats 1000000 in
theorem r_message1 (d : Nat) (I : xI) {i : Nat} (hw : f_wok I) (hi : i < f_w I) (hz : zok Z) : ER Z (d + 1) 134 I [.ref 74, .int (nI i), .int (nI 1)] (fun I' v => I' = I ∧ v = some (.int (I 94 i))) := by
  have hw1 := hw.1
  have hw2 := hw.2
  refine ER.of (ls := [some (.ref 74), some (.int (nI i)), some (.int (nI 1))]) rfl rfl ?_
  repeat' ((with_reducible fail_if_success show WR _ _ _ 15 _ _ _ _); (first
      | (with_reducible refine WR.lt (by omega) (by omega) (fun _ => ?_) (fun _ => ?_) <;> try (exfalso; omega))
      | (with_reducible refine WR.le (by omega) (by omega) (fun _ => ?_) (fun _ => ?_) <;> try (exfalso; omega))
      | (with_reducible refine WR.eq (by omega) (by omega) (fun _ => ?_) (fun _ => ?_) <;> try (exfalso; omega))
      | (with_reducible refine WR.ne (by omega) (by omega) (fun _ => ?_) (fun _ => ?_) <;> try (exfalso; omega))
      | with_reducible refine WR.lt0 (by omega) ?_
      | with_reducible refine WR.ge0 (by omega) ?_
      | (with_reducible refine WR.bz (fun _ => ?_) (fun _ => ?_) <;> try contradiction)
      | (with_reducible refine WR.bn (fun _ => ?_) (fun _ => ?_) <;> try contradiction)
      | (with_reducible refine WR.br (fun _ => ?_) (fun _ => ?_) <;> try contradiction)
      | refine WR.gik hz rfl (by with_reducible assumption) ?_
      | refine WR.gi hz rfl ?_
      | refine WR.gr hz rfl rfl ?_
      | refine WR.addn rfl (by with_reducible rfl) (by with_reducible rfl) ?_
      | refine WR.muln rfl (by with_reducible rfl) (by with_reducible rfl) ?_
      | refine WR.subn rfl (by with_reducible rfl) (by with_reducible rfl) (by omega) ?_
      | (refine WR.incn rfl rfl ?_; dsimp only [List.set])
      | (refine WR.go rfl rfl ?_; try dsimp only [List.set])
      | refine WR.aik hz rfl rfl rfl rfl (by first | with_reducible rfl | with_reducible assumption) (by omega) (by with_reducible assumption) ?_
      | refine WR.ai hz rfl rfl rfl rfl (by first | with_reducible rfl | with_reducible assumption) (by omega) ?_
      | refine WR.si hz rfl rfl rfl rfl (by first | with_reducible rfl | with_reducible assumption) (by omega) ?_
      | refine WR.az hz rfl rfl rfl rfl (by first | with_reducible rfl | with_reducible assumption) (by omega) ?_
      | refine WR.sz hz rfl rfl rfl rfl (by first | with_reducible rfl | with_reducible assumption) (by omega) (by decide) ?_
      | refine WR.pi hz rfl ?_
      | refine WR.rt rfl rfl rfl rfl ?_
      | refine WR.rz rfl rfl (by decide) ?_))
  refine WR.ts rfl (by decide) rfl ?_
  repeat' (first
      | (with_reducible refine WR.lt (by omega) (by omega) (fun _ => ?_) (fun _ => ?_) <;> try (exfalso; omega))
      | (with_reducible refine WR.le (by omega) (by omega) (fun _ => ?_) (fun _ => ?_) <;> try (exfalso; omega))
      | (with_reducible refine WR.eq (by omega) (by omega) (fun _ => ?_) (fun _ => ?_) <;> try (exfalso; omega))
      | (with_reducible refine WR.ne (by omega) (by omega) (fun _ => ?_) (fun _ => ?_) <;> try (exfalso; omega))
      | with_reducible refine WR.lt0 (by omega) ?_
      | with_reducible refine WR.ge0 (by omega) ?_
      | (with_reducible refine WR.bz (fun _ => ?_) (fun _ => ?_) <;> try contradiction)
      | (with_reducible refine WR.bn (fun _ => ?_) (fun _ => ?_) <;> try contradiction)
      | (with_reducible refine WR.br (fun _ => ?_) (fun _ => ?_) <;> try contradiction)
      | refine WR.gik hz rfl (by with_reducible assumption) ?_
      | refine WR.gi hz rfl ?_
      | refine WR.gr hz rfl rfl ?_
      | refine WR.addn rfl (by with_reducible rfl) (by with_reducible rfl) ?_
      | refine WR.muln rfl (by with_reducible rfl) (by with_reducible rfl) ?_
      | refine WR.subn rfl (by with_reducible rfl) (by with_reducible rfl) (by omega) ?_
      | (refine WR.incn rfl rfl ?_; dsimp only [List.set])
      | (refine WR.go rfl rfl ?_; try dsimp only [List.set])
      | refine WR.aik hz rfl rfl rfl rfl (by first | with_reducible rfl | with_reducible assumption) (by omega) (by with_reducible assumption) ?_
      | refine WR.ai hz rfl rfl rfl rfl (by first | with_reducible rfl | with_reducible assumption) (by omega) ?_
      | refine WR.si hz rfl rfl rfl rfl (by first | with_reducible rfl | with_reducible assumption) (by omega) ?_
      | refine WR.az hz rfl rfl rfl rfl (by first | with_reducible rfl | with_reducible assumption) (by omega) ?_
      | refine WR.sz hz rfl rfl rfl rfl (by first | with_reducible rfl | with_reducible assumption) (by omega) (by decide) ?_
      | refine WR.pi hz rfl ?_
      | refine WR.rt rfl rfl rfl rfl ?_
      | refine WR.rz rfl rfl (by decide) ?_)
  exact ⟨rfl, rfl⟩
set_option maxHeartbeats 1000000 in
theorem r_message2 (d : Nat) (I : xI) {i : Nat} (hw : f_wok I) (hi : i < f_w I) (hz : zok Z) : ER Z (d + 1) 134 I [.ref 74, .int (nI i), .int (nI 2)] (fun I' v => I' = I ∧ v = some (.int (I 95 i))) := by
  have hw1 := hw.1
  have hw2 := hw.2
  refine ER.of (ls := [some (.ref 74), some (.int (nI i)), some (.int (nI 2))]) rfl rfl ?_
  repeat' ((with_reducible fail_if_success show WR _ _ _ 15 _ _ _ _); (first
      | (with_reducible refine WR.lt (by omega) (by omega) (fun _ => ?_) (fun _ => ?_) <;> try (exfalso; omega))
      | (with_reducible refine WR.le (by omega) (by omega) (fun _ => ?_) (fun _ => ?_) <;> try (exfalso; omega))
      | (with_reducible refine WR.eq (by omega) (by omega) (fun _ => ?_) (fun _ => ?_) <;> try (exfalso; omega))
      | (with_reducible refine WR.ne (by omega) (by omega) (fun _ => ?_) (fun _ => ?_) <;> try (exfalso; omega))
      | with_reducible refine WR.lt0 (by omega) ?_
      | with_reducible refine WR.ge0 (by omega) ?_
      | (with_reducible refine WR.bz (fun _ => ?_) (fun _ => ?_) <;> try contradiction)
      | (with_reducible refine WR.bn (fun _ => ?_) (fun _ => ?_) <;> try contradiction)
      | (with_reducible refine WR.br (fun _ => ?_) (fun _ => ?_) <;> try contradiction)
      | refine WR.gik hz rfl (by with_reducible assumption) ?_
      | refine WR.gi hz rfl ?_
      | refine WR.gr hz rfl rfl ?_
      | refine WR.addn rfl (by with_reducible rfl) (by with_reducible rfl) ?_
      | refine WR.muln rfl (by with_reducible rfl) (by with_reducible rfl) ?_
      | refine WR.subn rfl (by with_reducible rfl) (by with_reducible rfl) (by omega) ?_
      | (refine WR.incn rfl rfl ?_; dsimp only [List.set])
      | (refine WR.go rfl rfl ?_; try dsimp only [List.set])
      | refine WR.aik hz rfl rfl rfl rfl (by first | with_reducible rfl | with_reducible assumption) (by omega) (by with_reducible assumption) ?_
      | refine WR.ai hz rfl rfl rfl rfl (by first | with_reducible rfl | with_reducible assumption) (by omega) ?_
      | refine WR.si hz rfl rfl rfl rfl (by first | with_reducible rfl | with_reducible assumption) (by omega) ?_
      | refine WR.az hz rfl rfl rfl rfl (by first | with_reducible rfl | with_reducible assumption) (by omega) ?_
      | refine WR.sz hz rfl rfl rfl rfl (by first | with_reducible rfl | with_reducible assumption) (by omega) (by decide) ?_
      | refine WR.pi hz rfl ?_
      | refine WR.rt rfl rfl rfl rfl ?_
      | refine WR.rz rfl rfl (by decide) ?_))
  refine WR.ts rfl (by decide) rfl ?_
  repeat' (first
      | (with_reducible refine WR.lt (by omega) (by omega) (fun _ => ?_) (fun _ => ?_) <;> try (exfalso; omega))
      | (with_reducible refine WR.le (by omega) (by omega) (fun _ => ?_) (fun _ => ?_) <;> try (exfalso; omega))
      | (with_reducible refine WR.eq (by omega) (by omega) (fun _ => ?_) (fun _ => ?_) <;> try (exfalso; omega))
      | (with_reducible refine WR.ne (by omega) (by omega) (fun _ => ?_) (fun _ => ?_) <;> try (exfalso; omega))
      | with_reducible refine WR.lt0 (by omega) ?_
      | with_reducible refine WR.ge0 (by omega) ?_
      | (with_reducible refine WR.bz (fun _ => ?_) (fun _ => ?_) <;> try contradiction)
      | (with_reducible refine WR.bn (fun _ => ?_) (fun _ => ?_) <;> try contradiction)
      | (with_reducible refine WR.br (fun _ => ?_) (fun _ => ?_) <;> try contradiction)
      | refine WR.gik hz rfl (by with_reducible assumption) ?_
      | refine WR.gi hz rfl ?_
      | refine WR.gr hz rfl rfl ?_
      | refine WR.addn rfl (by with_reducible rfl) (by with_reducible rfl) ?_
      | refine WR.muln rfl (by with_reducible rfl) (by with_reducible rfl) ?_
      | refine WR.subn rfl (by with_reducible rfl) (by with_reducible rfl) (by omega) ?_
      | (refine WR.incn rfl rfl ?_; dsimp only [List.set])
      | (refine WR.go rfl rfl ?_; try dsimp only [List.set])
      | refine WR.aik hz rfl rfl rfl rfl (by first | with_reducible rfl | with_reducible assumption) (by omega) (by with_reducible assumption) ?_
      | refine WR.ai hz rfl rfl rfl rfl (by first | with_reducible rfl | with_reducible assumption) (by omega) ?_
      | refine WR.si hz rfl rfl rfl rfl (by first | with_reducible rfl | with_reducible assumption) (by omega) ?_
      | refine WR.az hz rfl rfl rfl rfl (by first | with_reducible rfl | with_reducible assumption) (by omega) ?_
      | refine WR.sz hz rfl rfl rfl rfl (by first | with_reducible rfl | with_reducible assumption) (by omega) (by decide) ?_
      | refine WR.pi hz rfl ?_
      | refine WR.rt rfl rfl rfl rfl ?_
      | refine WR.rz rfl rfl (by decide) ?_)
  exact ⟨rfl, rfl⟩
set_option maxHeartbeats 1000000 in
theorem r_message3 (d : Nat) (I : xI) {i : Nat} (hw : f_wok I) (hi : i < f_w I) (hz : zok Z) : ER Z (d + 1) 134 I [.ref 74, .int (nI i), .int (nI 3)] (fun I' v => I' = I ∧ v = some (.int (I 97 i))) := by
  have hw1 := hw.1
  have hw2 := hw.2
  refine ER.of (ls := [some (.ref 74), some (.int (nI i)), some (.int (nI 3))]) rfl rfl ?_
  repeat' ((with_reducible fail_if_success show WR _ _ _ 15 _ _ _ _); (first
      | (with_reducible refine WR.lt (by omega) (by omega) (fun _ => ?_) (fun _ => ?_) <;> try (exfalso; omega))
      | (with_reducible refine WR.le (by omega) (by omega) (fun _ => ?_) (fun _ => ?_) <;> try (exfalso; omega))
      | (with_reducible refine WR.eq (by omega) (by omega) (fun _ => ?_) (fun _ => ?_) <;> try (exfalso; omega))
      | (with_reducible refine WR.ne (by omega) (by omega) (fun _ => ?_) (fun _ => ?_) <;> try (exfalso; omega))
      | with_reducible refine WR.lt0 (by omega) ?_
      | with_reducible refine WR.ge0 (by omega) ?_
      | (with_reducible refine WR.bz (fun _ => ?_) (fun _ => ?_) <;> try contradiction)
      | (with_reducible refine WR.bn (fun _ => ?_) (fun _ => ?_) <;> try contradiction)
      | (with_reducible refine WR.br (fun _ => ?_) (fun _ => ?_) <;> try contradiction)
      | refine WR.gik hz rfl (by with_reducible assumption) ?_
      | refine WR.gi hz rfl ?_
      | refine WR.gr hz rfl rfl ?_
      | refine WR.addn rfl (by with_reducible rfl) (by with_reducible rfl) ?_
      | refine WR.muln rfl (by with_reducible rfl) (by with_reducible rfl) ?_
      | refine WR.subn rfl (by with_reducible rfl) (by with_reducible rfl) (by omega) ?_
      | (refine WR.incn rfl rfl ?_; dsimp only [List.set])
      | (refine WR.go rfl rfl ?_; try dsimp only [List.set])
      | refine WR.aik hz rfl rfl rfl rfl (by first | with_reducible rfl | with_reducible assumption) (by omega) (by with_reducible assumption) ?_
      | refine WR.ai hz rfl rfl rfl rfl (by first | with_reducible rfl | with_reducible assumption) (by omega) ?_
      | refine WR.si hz rfl rfl rfl rfl (by first | with_reducible rfl | with_reducible assumption) (by omega) ?_
      | refine WR.az hz rfl rfl rfl rfl (by first | with_reducible rfl | with_reducible assumption) (by omega) ?_
      | refine WR.sz hz rfl rfl rfl rfl (by first | with_reducible rfl | with_reducible assumption) (by omega) (by decide) ?_
      | refine WR.pi hz rfl ?_
      | refine WR.rt rfl rfl rfl rfl ?_
      | refine WR.rz rfl rfl (by decide) ?_))
  refine WR.ts rfl (by decide) rfl ?_
  repeat' (first
      | (with_reducible refine WR.lt (by omega) (by omega) (fun _ => ?_) (fun _ => ?_) <;> try (exfalso; omega))
      | (with_reducible refine WR.le (by omega) (by omega) (fun _ => ?_) (fun _ => ?_) <;> try (exfalso; omega))
      | (with_reducible refine WR.eq (by omega) (by omega) (fun _ => ?_) (fun _ => ?_) <;> try (exfalso; omega))
      | (with_reducible refine WR.ne (by omega) (by omega) (fun _ => ?_) (fun _ => ?_) <;> try (exfalso; omega))
      | with_reducible refine WR.lt0 (by omega) ?_
      | with_reducible refine WR.ge0 (by omega) ?_
      | (with_reducible refine WR.bz (fun _ => ?_) (fun _ => ?_) <;> try contradiction)
      | (with_reducible refine WR.bn (fun _ => ?_) (fun _ => ?_) <;> try contradiction)
      | (with_reducible refine WR.br (fun _ => ?_) (fun _ => ?_) <;> try contradiction)
      | refine WR.gik hz rfl (by with_reducible assumption) ?_
      | refine WR.gi hz rfl ?_
      | refine WR.gr hz rfl rfl ?_
      | refine WR.addn rfl (by with_reducible rfl) (by with_reducible rfl) ?_
      | refine WR.muln rfl (by with_reducible rfl) (by with_reducible rfl) ?_
      | refine WR.subn rfl (by with_reducible rfl) (by with_reducible rfl) (by omega) ?_
      | (refine WR.incn rfl rfl ?_; dsimp only [List.set])
      | (refine WR.go rfl rfl ?_; try dsimp only [List.set])
      | refine WR.aik hz rfl rfl rfl rfl (by first | with_reducible rfl | with_reducible assumption) (by omega) (by with_reducible assumption) ?_
      | refine WR.ai hz rfl rfl rfl rfl (by first | with_reducible rfl | with_reducible assumption) (by omega) ?_
      | refine WR.si hz rfl rfl rfl rfl (by first | with_reducible rfl | with_reducible assumption) (by omega) ?_
      | refine WR.az hz rfl rfl rfl rfl (by first | with_reducible rfl | with_reducible assumption) (by omega) ?_
      | refine WR.sz hz rfl rfl rfl rfl (by first | with_reducible rfl | with_reducible assumption) (by omega) (by decide) ?_
      | refine WR.pi hz rfl ?_
      | refine WR.rt rfl rfl rfl rfl ?_
      | refine WR.rz rfl rfl (by decide) ?_)
  exact ⟨rfl, rfl⟩
set_option maxHeartbeats 1000000 in
theorem r_message5 (d : Nat) (I : xI) {i : Nat} (hw : f_wok I) (hi : i < f_w I) (hz : zok Z) : ER Z (d + 1) 134 I [.ref 74, .int (nI i), .int (nI 5)] (fun I' v => I' = I ∧ v = some (.int (I 98 i))) := by
  have hw1 := hw.1
  have hw2 := hw.2
  refine ER.of (ls := [some (.ref 74), some (.int (nI i)), some (.int (nI 5))]) rfl rfl ?_
  repeat' ((with_reducible fail_if_success show WR _ _ _ 15 _ _ _ _); (first
      | (with_reducible refine WR.lt (by omega) (by omega) (fun _ => ?_) (fun _ => ?_) <;> try (exfalso; omega))
      | (with_reducible refine WR.le (by omega) (by omega) (fun _ => ?_) (fun _ => ?_) <;> try (exfalso; omega))
      | (with_reducible refine WR.eq (by omega) (by omega) (fun _ => ?_) (fun _ => ?_) <;> try (exfalso; omega))
      | (with_reducible refine WR.ne (by omega) (by omega) (fun _ => ?_) (fun _ => ?_) <;> try (exfalso; omega))
      | with_reducible refine WR.lt0 (by omega) ?_
      | with_reducible refine WR.ge0 (by omega) ?_
      | (with_reducible refine WR.bz (fun _ => ?_) (fun _ => ?_) <;> try contradiction)
      | (with_reducible refine WR.bn (fun _ => ?_) (fun _ => ?_) <;> try contradiction)
      | (with_reducible refine WR.br (fun _ => ?_) (fun _ => ?_) <;> try contradiction)
      | refine WR.gik hz rfl (by with_reducible assumption) ?_
      | refine WR.gi hz rfl ?_
      | refine WR.gr hz rfl rfl ?_
      | refine WR.addn rfl (by with_reducible rfl) (by with_reducible rfl) ?_
      | refine WR.muln rfl (by with_reducible rfl) (by with_reducible rfl) ?_
      | refine WR.subn rfl (by with_reducible rfl) (by with_reducible rfl) (by omega) ?_
      | (refine WR.incn rfl rfl ?_; dsimp only [List.set])
      | (refine WR.go rfl rfl ?_; try dsimp only [List.set])
      | refine WR.aik hz rfl rfl rfl rfl (by first | with_reducible rfl | with_reducible assumption) (by omega) (by with_reducible assumption) ?_
      | refine WR.ai hz rfl rfl rfl rfl (by first | with_reducible rfl | with_reducible assumption) (by omega) ?_
      | refine WR.si hz rfl rfl rfl rfl (by first | with_reducible rfl | with_reducible assumption) (by omega) ?_
      | refine WR.az hz rfl rfl rfl rfl (by first | with_reducible rfl | with_reducible assumption) (by omega) ?_
      | refine WR.sz hz rfl rfl rfl rfl (by first | with_reducible rfl | with_reducible assumption) (by omega) (by decide) ?_
      | refine WR.pi hz rfl ?_
      | refine WR.rt rfl rfl rfl rfl ?_
      | refine WR.rz rfl rfl (by decide) ?_))
  refine WR.ts rfl (by decide) rfl ?_
  repeat' (first
      | (with_reducible refine WR.lt (by omega) (by omega) (fun _ => ?_) (fun _ => ?_) <;> try (exfalso; omega))
      | (with_reducible refine WR.le (by omega) (by omega) (fun _ => ?_) (fun _ => ?_) <;> try (exfalso; omega))
      | (with_reducible refine WR.eq (by omega) (by omega) (fun _ => ?_) (fun _ => ?_) <;> try (exfalso; omega))
      | (with_reducible refine WR.ne (by omega) (by omega) (fun _ => ?_) (fun _ => ?_) <;> try (exfalso; omega))
      | with_reducible refine WR.lt0 (by omega) ?_
      | with_reducible refine WR.ge0 (by omega) ?_
      | (with_reducible refine WR.bz (fun _ => ?_) (fun _ => ?_) <;> try contradiction)
      | (with_reducible refine WR.bn (fun _ => ?_) (fun _ => ?_) <;> try contradiction)
      | (with_reducible refine WR.br (fun _ => ?_) (fun _ => ?_) <;> try contradiction)
      | refine WR.gik hz rfl (by with_reducible assumption) ?_
      | refine WR.gi hz rfl ?_
      | refine WR.gr hz rfl rfl ?_
      | refine WR.addn rfl (by with_reducible rfl) (by with_reducible rfl) ?_
      | refine WR.muln rfl (by with_reducible rfl) (by with_reducible rfl) ?_
      | refine WR.subn rfl (by with_reducible rfl) (by with_reducible rfl) (by omega) ?_
      | (refine WR.incn rfl rfl ?_; dsimp only [List.set])
      | (refine WR.go rfl rfl ?_; try dsimp only [List.set])
      | refine WR.aik hz rfl rfl rfl rfl (by first | with_reducible rfl | with_reducible assumption) (by omega) (by with_reducible assumption) ?_
      | refine WR.ai hz rfl rfl rfl rfl (by first | with_reducible rfl | with_reducible assumption) (by omega) ?_
      | refine WR.si hz rfl rfl rfl rfl (by first | with_reducible rfl | with_reducible assumption) (by omega) ?_
      | refine WR.az hz rfl rfl rfl rfl (by first | with_reducible rfl | with_reducible assumption) (by omega) ?_
      | refine WR.sz hz rfl rfl rfl rfl (by first | with_reducible rfl | with_reducible assumption) (by omega) (by decide) ?_
      | refine WR.pi hz rfl ?_
      | refine WR.rt rfl rfl rfl rfl ?_
      | refine WR.rz rfl rfl (by decide) ?_)
  exact ⟨rfl, rfl⟩
set_option maxHeartbeats 1000000 in
theorem r_message42 (d : Nat) (I : xI) {i : Nat} (hw : f_wok I) (hi : i < f_w I) (hk : I 93 i = nI 2) (hz : zok Z) : ER Z (d + 2) 134 I [.ref 74, .int (nI i), .int (nI 4)] (fun I' v => I' = I ∧ v = some (.int (f_ld2 I i 25))) := by
  have hw1 := hw.1
  have hw2 := hw.2
  refine ER.of (ls := [some (.ref 74), some (.int (nI i)), some (.int (nI 4))]) rfl rfl ?_
  repeat' ((with_reducible fail_if_success show WR _ _ _ 15 _ _ _ _); (first
      | (with_reducible refine WR.lt (by omega) (by omega) (fun _ => ?_) (fun _ => ?_) <;> try (exfalso; omega))
      | (with_reducible refine WR.le (by omega) (by omega) (fun _ => ?_) (fun _ => ?_) <;> try (exfalso; omega))
      | (with_reducible refine WR.eq (by omega) (by omega) (fun _ => ?_) (fun _ => ?_) <;> try (exfalso; omega))
      | (with_reducible refine WR.ne (by omega) (by omega) (fun _ => ?_) (fun _ => ?_) <;> try (exfalso; omega))
      | with_reducible refine WR.lt0 (by omega) ?_
      | with_reducible refine WR.ge0 (by omega) ?_
      | (with_reducible refine WR.bz (fun _ => ?_) (fun _ => ?_) <;> try contradiction)
      | (with_reducible refine WR.bn (fun _ => ?_) (fun _ => ?_) <;> try contradiction)
      | (with_reducible refine WR.br (fun _ => ?_) (fun _ => ?_) <;> try contradiction)
      | refine WR.gik hz rfl (by with_reducible assumption) ?_
      | refine WR.gi hz rfl ?_
      | refine WR.gr hz rfl rfl ?_
      | refine WR.addn rfl (by with_reducible rfl) (by with_reducible rfl) ?_
      | refine WR.muln rfl (by with_reducible rfl) (by with_reducible rfl) ?_
      | refine WR.subn rfl (by with_reducible rfl) (by with_reducible rfl) (by omega) ?_
      | (refine WR.incn rfl rfl ?_; dsimp only [List.set])
      | (refine WR.go rfl rfl ?_; try dsimp only [List.set])
      | refine WR.aik hz rfl rfl rfl rfl (by first | with_reducible rfl | with_reducible assumption) (by omega) (by with_reducible assumption) ?_
      | refine WR.ai hz rfl rfl rfl rfl (by first | with_reducible rfl | with_reducible assumption) (by omega) ?_
      | refine WR.si hz rfl rfl rfl rfl (by first | with_reducible rfl | with_reducible assumption) (by omega) ?_
      | refine WR.az hz rfl rfl rfl rfl (by first | with_reducible rfl | with_reducible assumption) (by omega) ?_
      | refine WR.sz hz rfl rfl rfl rfl (by first | with_reducible rfl | with_reducible assumption) (by omega) (by decide) ?_
      | refine WR.pi hz rfl ?_
      | refine WR.rt rfl rfl rfl rfl ?_
      | refine WR.rz rfl rfl (by decide) ?_))
  refine WR.ts rfl (by decide) rfl ?_
  iterate 2 (first
      | (with_reducible refine WR.lt (by omega) (by omega) (fun _ => ?_) (fun _ => ?_) <;> try (exfalso; omega))
      | (with_reducible refine WR.le (by omega) (by omega) (fun _ => ?_) (fun _ => ?_) <;> try (exfalso; omega))
      | (with_reducible refine WR.eq (by omega) (by omega) (fun _ => ?_) (fun _ => ?_) <;> try (exfalso; omega))
      | (with_reducible refine WR.ne (by omega) (by omega) (fun _ => ?_) (fun _ => ?_) <;> try (exfalso; omega))
      | with_reducible refine WR.lt0 (by omega) ?_
      | with_reducible refine WR.ge0 (by omega) ?_
      | (with_reducible refine WR.bz (fun _ => ?_) (fun _ => ?_) <;> try contradiction)
      | (with_reducible refine WR.bn (fun _ => ?_) (fun _ => ?_) <;> try contradiction)
      | (with_reducible refine WR.br (fun _ => ?_) (fun _ => ?_) <;> try contradiction)
      | refine WR.gik hz rfl (by with_reducible assumption) ?_
      | refine WR.gi hz rfl ?_
      | refine WR.gr hz rfl rfl ?_
      | refine WR.addn rfl (by with_reducible rfl) (by with_reducible rfl) ?_
      | refine WR.muln rfl (by with_reducible rfl) (by with_reducible rfl) ?_
      | refine WR.subn rfl (by with_reducible rfl) (by with_reducible rfl) (by omega) ?_
      | (refine WR.incn rfl rfl ?_; dsimp only [List.set])
      | (refine WR.go rfl rfl ?_; try dsimp only [List.set])
      | refine WR.aik hz rfl rfl rfl rfl (by first | with_reducible rfl | with_reducible assumption) (by omega) (by with_reducible assumption) ?_
      | refine WR.ai hz rfl rfl rfl rfl (by first | with_reducible rfl | with_reducible assumption) (by omega) ?_
      | refine WR.si hz rfl rfl rfl rfl (by first | with_reducible rfl | with_reducible assumption) (by omega) ?_
      | refine WR.az hz rfl rfl rfl rfl (by first | with_reducible rfl | with_reducible assumption) (by omega) ?_
      | refine WR.sz hz rfl rfl rfl rfl (by first | with_reducible rfl | with_reducible assumption) (by omega) (by decide) ?_
      | refine WR.pi hz rfl ?_
      | refine WR.rt rfl rfl rfl rfl ?_
      | refine WR.rz rfl rfl (by decide) ?_)
  refine WR.V1i hz rfl rfl (r_load2 d I (by omega) hk hz) ?_
  repeat' (first
      | (with_reducible refine WR.lt (by omega) (by omega) (fun _ => ?_) (fun _ => ?_) <;> try (exfalso; omega))
      | (with_reducible refine WR.le (by omega) (by omega) (fun _ => ?_) (fun _ => ?_) <;> try (exfalso; omega))
      | (with_reducible refine WR.eq (by omega) (by omega) (fun _ => ?_) (fun _ => ?_) <;> try (exfalso; omega))
      | (with_reducible refine WR.ne (by omega) (by omega) (fun _ => ?_) (fun _ => ?_) <;> try (exfalso; omega))
      | with_reducible refine WR.lt0 (by omega) ?_
      | with_reducible refine WR.ge0 (by omega) ?_
      | (with_reducible refine WR.bz (fun _ => ?_) (fun _ => ?_) <;> try contradiction)
      | (with_reducible refine WR.bn (fun _ => ?_) (fun _ => ?_) <;> try contradiction)
      | (with_reducible refine WR.br (fun _ => ?_) (fun _ => ?_) <;> try contradiction)
      | refine WR.gik hz rfl (by with_reducible assumption) ?_
      | refine WR.gi hz rfl ?_
      | refine WR.gr hz rfl rfl ?_
      | refine WR.addn rfl (by with_reducible rfl) (by with_reducible rfl) ?_
      | refine WR.muln rfl (by with_reducible rfl) (by with_reducible rfl) ?_
      | refine WR.subn rfl (by with_reducible rfl) (by with_reducible rfl) (by omega) ?_
      | (refine WR.incn rfl rfl ?_; dsimp only [List.set])
      | (refine WR.go rfl rfl ?_; try dsimp only [List.set])
      | refine WR.aik hz rfl rfl rfl rfl (by first | with_reducible rfl | with_reducible assumption) (by omega) (by with_reducible assumption) ?_
      | refine WR.ai hz rfl rfl rfl rfl (by first | with_reducible rfl | with_reducible assumption) (by omega) ?_
      | refine WR.si hz rfl rfl rfl rfl (by first | with_reducible rfl | with_reducible assumption) (by omega) ?_
      | refine WR.az hz rfl rfl rfl rfl (by first | with_reducible rfl | with_reducible assumption) (by omega) ?_
      | refine WR.sz hz rfl rfl rfl rfl (by first | with_reducible rfl | with_reducible assumption) (by omega) (by decide) ?_
      | refine WR.pi hz rfl ?_
      | refine WR.rt rfl rfl rfl rfl ?_
      | refine WR.rz rfl rfl (by decide) ?_)
  exact ⟨rfl, rfl⟩
set_option maxHeartbeats 1000000 in
theorem r_message48 (d : Nat) (I : xI) {i : Nat} (hw : f_wok I) (hi : i < f_w I) {f : Nat} (hk : I 93 i = nI 8) (hn : I 97 i = nI f) (hn2 : f ≤ 24) (hf : f_wf I) (hz : zok Z) : ER Z (d + 4) 134 I [.ref 74, .int (nI i), .int (nI 4)] (fun I' v => I' = f_rp I f ∧ v = some (.int (f_ld8 (f_rp I f) 41))) := by
  have hw1 := hw.1
  have hw2 := hw.2
  refine ER.of (ls := [some (.ref 74), some (.int (nI i)), some (.int (nI 4))]) rfl rfl ?_
  repeat' ((with_reducible fail_if_success show WR _ _ _ 15 _ _ _ _); (first
      | (with_reducible refine WR.lt (by omega) (by omega) (fun _ => ?_) (fun _ => ?_) <;> try (exfalso; omega))
      | (with_reducible refine WR.le (by omega) (by omega) (fun _ => ?_) (fun _ => ?_) <;> try (exfalso; omega))
      | (with_reducible refine WR.eq (by omega) (by omega) (fun _ => ?_) (fun _ => ?_) <;> try (exfalso; omega))
      | (with_reducible refine WR.ne (by omega) (by omega) (fun _ => ?_) (fun _ => ?_) <;> try (exfalso; omega))
      | with_reducible refine WR.lt0 (by omega) ?_
      | with_reducible refine WR.ge0 (by omega) ?_
      | (with_reducible refine WR.bz (fun _ => ?_) (fun _ => ?_) <;> try contradiction)
      | (with_reducible refine WR.bn (fun _ => ?_) (fun _ => ?_) <;> try contradiction)
      | (with_reducible refine WR.br (fun _ => ?_) (fun _ => ?_) <;> try contradiction)
      | refine WR.gik hz rfl (by with_reducible assumption) ?_
      | refine WR.gi hz rfl ?_
      | refine WR.gr hz rfl rfl ?_
      | refine WR.addn rfl (by with_reducible rfl) (by with_reducible rfl) ?_
      | refine WR.muln rfl (by with_reducible rfl) (by with_reducible rfl) ?_
      | refine WR.subn rfl (by with_reducible rfl) (by with_reducible rfl) (by omega) ?_
      | (refine WR.incn rfl rfl ?_; dsimp only [List.set])
      | (refine WR.go rfl rfl ?_; try dsimp only [List.set])
      | refine WR.aik hz rfl rfl rfl rfl (by first | with_reducible rfl | with_reducible assumption) (by omega) (by with_reducible assumption) ?_
      | refine WR.ai hz rfl rfl rfl rfl (by first | with_reducible rfl | with_reducible assumption) (by omega) ?_
      | refine WR.si hz rfl rfl rfl rfl (by first | with_reducible rfl | with_reducible assumption) (by omega) ?_
      | refine WR.az hz rfl rfl rfl rfl (by first | with_reducible rfl | with_reducible assumption) (by omega) ?_
      | refine WR.sz hz rfl rfl rfl rfl (by first | with_reducible rfl | with_reducible assumption) (by omega) (by decide) ?_
      | refine WR.pi hz rfl ?_
      | refine WR.rt rfl rfl rfl rfl ?_
      | refine WR.rz rfl rfl (by decide) ?_))
  refine WR.ts rfl (by decide) rfl ?_
  iterate 2 (first
      | (with_reducible refine WR.lt (by omega) (by omega) (fun _ => ?_) (fun _ => ?_) <;> try (exfalso; omega))
      | (with_reducible refine WR.le (by omega) (by omega) (fun _ => ?_) (fun _ => ?_) <;> try (exfalso; omega))
      | (with_reducible refine WR.eq (by omega) (by omega) (fun _ => ?_) (fun _ => ?_) <;> try (exfalso; omega))
      | (with_reducible refine WR.ne (by omega) (by omega) (fun _ => ?_) (fun _ => ?_) <;> try (exfalso; omega))
      | with_reducible refine WR.lt0 (by omega) ?_
      | with_reducible refine WR.ge0 (by omega) ?_
      | (with_reducible refine WR.bz (fun _ => ?_) (fun _ => ?_) <;> try contradiction)
      | (with_reducible refine WR.bn (fun _ => ?_) (fun _ => ?_) <;> try contradiction)
      | (with_reducible refine WR.br (fun _ => ?_) (fun _ => ?_) <;> try contradiction)
      | refine WR.gik hz rfl (by with_reducible assumption) ?_
      | refine WR.gi hz rfl ?_
      | refine WR.gr hz rfl rfl ?_
      | refine WR.addn rfl (by with_reducible rfl) (by with_reducible rfl) ?_
      | refine WR.muln rfl (by with_reducible rfl) (by with_reducible rfl) ?_
      | refine WR.subn rfl (by with_reducible rfl) (by with_reducible rfl) (by omega) ?_
      | (refine WR.incn rfl rfl ?_; dsimp only [List.set])
      | (refine WR.go rfl rfl ?_; try dsimp only [List.set])
      | refine WR.aik hz rfl rfl rfl rfl (by first | with_reducible rfl | with_reducible assumption) (by omega) (by with_reducible assumption) ?_
      | refine WR.ai hz rfl rfl rfl rfl (by first | with_reducible rfl | with_reducible assumption) (by omega) ?_
      | refine WR.si hz rfl rfl rfl rfl (by first | with_reducible rfl | with_reducible assumption) (by omega) ?_
      | refine WR.az hz rfl rfl rfl rfl (by first | with_reducible rfl | with_reducible assumption) (by omega) ?_
      | refine WR.sz hz rfl rfl rfl rfl (by first | with_reducible rfl | with_reducible assumption) (by omega) (by decide) ?_
      | refine WR.pi hz rfl ?_
      | refine WR.rt rfl rfl rfl rfl ?_
      | refine WR.rz rfl rfl (by decide) ?_)
  refine WR.V1i hz rfl rfl (r_load8 d I (by omega) hk hn hn2 hf hz) ?_
  repeat' (first
      | (with_reducible refine WR.lt (by omega) (by omega) (fun _ => ?_) (fun _ => ?_) <;> try (exfalso; omega))
      | (with_reducible refine WR.le (by omega) (by omega) (fun _ => ?_) (fun _ => ?_) <;> try (exfalso; omega))
      | (with_reducible refine WR.eq (by omega) (by omega) (fun _ => ?_) (fun _ => ?_) <;> try (exfalso; omega))
      | (with_reducible refine WR.ne (by omega) (by omega) (fun _ => ?_) (fun _ => ?_) <;> try (exfalso; omega))
      | with_reducible refine WR.lt0 (by omega) ?_
      | with_reducible refine WR.ge0 (by omega) ?_
      | (with_reducible refine WR.bz (fun _ => ?_) (fun _ => ?_) <;> try contradiction)
      | (with_reducible refine WR.bn (fun _ => ?_) (fun _ => ?_) <;> try contradiction)
      | (with_reducible refine WR.br (fun _ => ?_) (fun _ => ?_) <;> try contradiction)
      | refine WR.gik hz rfl (by with_reducible assumption) ?_
      | refine WR.gi hz rfl ?_
      | refine WR.gr hz rfl rfl ?_
      | refine WR.addn rfl (by with_reducible rfl) (by with_reducible rfl) ?_
      | refine WR.muln rfl (by with_reducible rfl) (by with_reducible rfl) ?_
      | refine WR.subn rfl (by with_reducible rfl) (by with_reducible rfl) (by omega) ?_
      | (refine WR.incn rfl rfl ?_; dsimp only [List.set])
      | (refine WR.go rfl rfl ?_; try dsimp only [List.set])
      | refine WR.aik hz rfl rfl rfl rfl (by first | with_reducible rfl | with_reducible assumption) (by omega) (by with_reducible assumption) ?_
      | refine WR.ai hz rfl rfl rfl rfl (by first | with_reducible rfl | with_reducible assumption) (by omega) ?_
      | refine WR.si hz rfl rfl rfl rfl (by first | with_reducible rfl | with_reducible assumption) (by omega) ?_
      | refine WR.az hz rfl rfl rfl rfl (by first | with_reducible rfl | with_reducible assumption) (by omega) ?_
      | refine WR.sz hz rfl rfl rfl rfl (by first | with_reducible rfl | with_reducible assumption) (by omega) (by decide) ?_
      | refine WR.pi hz rfl ?_
      | refine WR.rt rfl rfl rfl rfl ?_
      | refine WR.rz rfl rfl (by decide) ?_)
  exact ⟨rfl, rfl⟩
set_option maxHeartbeats 1000000 in
theorem r_message40 (d : Nat) (I : xI) {i : Nat} (hw : f_wok I) (hi : i < f_w I) (hk : I 93 i ≠ nI 2) (hk2 : I 93 i ≠ nI 8) (hz : zok Z) : ER Z (d + 2) 134 I [.ref 74, .int (nI i), .int (nI 4)] (fun I' v => I' = I ∧ v = some (.int (nI 0))) := by
  have hw1 := hw.1
  have hw2 := hw.2
  refine ER.of (ls := [some (.ref 74), some (.int (nI i)), some (.int (nI 4))]) rfl rfl ?_
  repeat' ((with_reducible fail_if_success show WR _ _ _ 15 _ _ _ _); (first
      | (with_reducible refine WR.lt (by omega) (by omega) (fun _ => ?_) (fun _ => ?_) <;> try (exfalso; omega))
      | (with_reducible refine WR.le (by omega) (by omega) (fun _ => ?_) (fun _ => ?_) <;> try (exfalso; omega))
      | (with_reducible refine WR.eq (by omega) (by omega) (fun _ => ?_) (fun _ => ?_) <;> try (exfalso; omega))
      | (with_reducible refine WR.ne (by omega) (by omega) (fun _ => ?_) (fun _ => ?_) <;> try (exfalso; omega))
      | with_reducible refine WR.lt0 (by omega) ?_
      | with_reducible refine WR.ge0 (by omega) ?_
      | (with_reducible refine WR.bz (fun _ => ?_) (fun _ => ?_) <;> try contradiction)
      | (with_reducible refine WR.bn (fun _ => ?_) (fun _ => ?_) <;> try contradiction)
      | (with_reducible refine WR.br (fun _ => ?_) (fun _ => ?_) <;> try contradiction)
      | refine WR.gik hz rfl (by with_reducible assumption) ?_
      | refine WR.gi hz rfl ?_
      | refine WR.gr hz rfl rfl ?_
      | refine WR.addn rfl (by with_reducible rfl) (by with_reducible rfl) ?_
      | refine WR.muln rfl (by with_reducible rfl) (by with_reducible rfl) ?_
      | refine WR.subn rfl (by with_reducible rfl) (by with_reducible rfl) (by omega) ?_
      | (refine WR.incn rfl rfl ?_; dsimp only [List.set])
      | (refine WR.go rfl rfl ?_; try dsimp only [List.set])
      | refine WR.aik hz rfl rfl rfl rfl (by first | with_reducible rfl | with_reducible assumption) (by omega) (by with_reducible assumption) ?_
      | refine WR.ai hz rfl rfl rfl rfl (by first | with_reducible rfl | with_reducible assumption) (by omega) ?_
      | refine WR.si hz rfl rfl rfl rfl (by first | with_reducible rfl | with_reducible assumption) (by omega) ?_
      | refine WR.az hz rfl rfl rfl rfl (by first | with_reducible rfl | with_reducible assumption) (by omega) ?_
      | refine WR.sz hz rfl rfl rfl rfl (by first | with_reducible rfl | with_reducible assumption) (by omega) (by decide) ?_
      | refine WR.pi hz rfl ?_
      | refine WR.rt rfl rfl rfl rfl ?_
      | refine WR.rz rfl rfl (by decide) ?_))
  refine WR.ts rfl (by decide) rfl ?_
  iterate 2 (first
      | (with_reducible refine WR.lt (by omega) (by omega) (fun _ => ?_) (fun _ => ?_) <;> try (exfalso; omega))
      | (with_reducible refine WR.le (by omega) (by omega) (fun _ => ?_) (fun _ => ?_) <;> try (exfalso; omega))
      | (with_reducible refine WR.eq (by omega) (by omega) (fun _ => ?_) (fun _ => ?_) <;> try (exfalso; omega))
      | (with_reducible refine WR.ne (by omega) (by omega) (fun _ => ?_) (fun _ => ?_) <;> try (exfalso; omega))
      | with_reducible refine WR.lt0 (by omega) ?_
      | with_reducible refine WR.ge0 (by omega) ?_
      | (with_reducible refine WR.bz (fun _ => ?_) (fun _ => ?_) <;> try contradiction)
      | (with_reducible refine WR.bn (fun _ => ?_) (fun _ => ?_) <;> try contradiction)
      | (with_reducible refine WR.br (fun _ => ?_) (fun _ => ?_) <;> try contradiction)
      | refine WR.gik hz rfl (by with_reducible assumption) ?_
      | refine WR.gi hz rfl ?_
      | refine WR.gr hz rfl rfl ?_
      | refine WR.addn rfl (by with_reducible rfl) (by with_reducible rfl) ?_
      | refine WR.muln rfl (by with_reducible rfl) (by with_reducible rfl) ?_
      | refine WR.subn rfl (by with_reducible rfl) (by with_reducible rfl) (by omega) ?_
      | (refine WR.incn rfl rfl ?_; dsimp only [List.set])
      | (refine WR.go rfl rfl ?_; try dsimp only [List.set])
      | refine WR.aik hz rfl rfl rfl rfl (by first | with_reducible rfl | with_reducible assumption) (by omega) (by with_reducible assumption) ?_
      | refine WR.ai hz rfl rfl rfl rfl (by first | with_reducible rfl | with_reducible assumption) (by omega) ?_
      | refine WR.si hz rfl rfl rfl rfl (by first | with_reducible rfl | with_reducible assumption) (by omega) ?_
      | refine WR.az hz rfl rfl rfl rfl (by first | with_reducible rfl | with_reducible assumption) (by omega) ?_
      | refine WR.sz hz rfl rfl rfl rfl (by first | with_reducible rfl | with_reducible assumption) (by omega) (by decide) ?_
      | refine WR.pi hz rfl ?_
      | refine WR.rt rfl rfl rfl rfl ?_
      | refine WR.rz rfl rfl (by decide) ?_)
  refine WR.V1i hz rfl rfl (r_load0 d I (by omega) hk hk2 hz) ?_
  repeat' (first
      | (with_reducible refine WR.lt (by omega) (by omega) (fun _ => ?_) (fun _ => ?_) <;> try (exfalso; omega))
      | (with_reducible refine WR.le (by omega) (by omega) (fun _ => ?_) (fun _ => ?_) <;> try (exfalso; omega))
      | (with_reducible refine WR.eq (by omega) (by omega) (fun _ => ?_) (fun _ => ?_) <;> try (exfalso; omega))
      | (with_reducible refine WR.ne (by omega) (by omega) (fun _ => ?_) (fun _ => ?_) <;> try (exfalso; omega))
      | with_reducible refine WR.lt0 (by omega) ?_
      | with_reducible refine WR.ge0 (by omega) ?_
      | (with_reducible refine WR.bz (fun _ => ?_) (fun _ => ?_) <;> try contradiction)
      | (with_reducible refine WR.bn (fun _ => ?_) (fun _ => ?_) <;> try contradiction)
      | (with_reducible refine WR.br (fun _ => ?_) (fun _ => ?_) <;> try contradiction)
      | refine WR.gik hz rfl (by with_reducible assumption) ?_
      | refine WR.gi hz rfl ?_
      | refine WR.gr hz rfl rfl ?_
      | refine WR.addn rfl (by with_reducible rfl) (by with_reducible rfl) ?_
      | refine WR.muln rfl (by with_reducible rfl) (by with_reducible rfl) ?_
      | refine WR.subn rfl (by with_reducible rfl) (by with_reducible rfl) (by omega) ?_
      | (refine WR.incn rfl rfl ?_; dsimp only [List.set])
      | (refine WR.go rfl rfl ?_; try dsimp only [List.set])
      | refine WR.aik hz rfl rfl rfl rfl (by first | with_reducible rfl | with_reducible assumption) (by omega) (by with_reducible assumption) ?_
      | refine WR.ai hz rfl rfl rfl rfl (by first | with_reducible rfl | with_reducible assumption) (by omega) ?_
      | refine WR.si hz rfl rfl rfl rfl (by first | with_reducible rfl | with_reducible assumption) (by omega) ?_
      | refine WR.az hz rfl rfl rfl rfl (by first | with_reducible rfl | with_reducible assumption) (by omega) ?_
      | refine WR.sz hz rfl rfl rfl rfl (by first | with_reducible rfl | with_reducible assumption) (by omega) (by decide) ?_
      | refine WR.pi hz rfl ?_
      | refine WR.rt rfl rfl rfl rfl ?_
      | refine WR.rz rfl rfl (by decide) ?_)
  exact ⟨rfl, rfl⟩
set_option maxHeartbeats 1000000 in
theorem r_message_d (d : Nat) (I : xI) {i : Nat} {y : Int32} (hw : f_wok I) (hi : i < f_w I) (hy : y < 0 ∨ (6 : Int) ≤ y.toInt) (hz : zok Z) : ER Z (d + 1) 134 I [.ref 74, .int (nI i), .int y] (fun I' v => I' = I ∧ v = some (.int (-1))) := by
  have hw1 := hw.1
  have hw2 := hw.2
  refine ER.of (ls := [some (.ref 74), some (.int (nI i)), some (.int y)]) rfl rfl ?_
  repeat' ((with_reducible fail_if_success show WR _ _ _ 15 _ _ _ _); (first
      | (with_reducible refine WR.lt (by omega) (by omega) (fun _ => ?_) (fun _ => ?_) <;> try (exfalso; omega))
      | (with_reducible refine WR.le (by omega) (by omega) (fun _ => ?_) (fun _ => ?_) <;> try (exfalso; omega))
      | (with_reducible refine WR.eq (by omega) (by omega) (fun _ => ?_) (fun _ => ?_) <;> try (exfalso; omega))
      | (with_reducible refine WR.ne (by omega) (by omega) (fun _ => ?_) (fun _ => ?_) <;> try (exfalso; omega))
      | with_reducible refine WR.lt0 (by omega) ?_
      | with_reducible refine WR.ge0 (by omega) ?_
      | (with_reducible refine WR.bz (fun _ => ?_) (fun _ => ?_) <;> try contradiction)
      | (with_reducible refine WR.bn (fun _ => ?_) (fun _ => ?_) <;> try contradiction)
      | (with_reducible refine WR.br (fun _ => ?_) (fun _ => ?_) <;> try contradiction)
      | refine WR.gik hz rfl (by with_reducible assumption) ?_
      | refine WR.gi hz rfl ?_
      | refine WR.gr hz rfl rfl ?_
      | refine WR.addn rfl (by with_reducible rfl) (by with_reducible rfl) ?_
      | refine WR.muln rfl (by with_reducible rfl) (by with_reducible rfl) ?_
      | refine WR.subn rfl (by with_reducible rfl) (by with_reducible rfl) (by omega) ?_
      | (refine WR.incn rfl rfl ?_; dsimp only [List.set])
      | (refine WR.go rfl rfl ?_; try dsimp only [List.set])
      | refine WR.aik hz rfl rfl rfl rfl (by first | with_reducible rfl | with_reducible assumption) (by omega) (by with_reducible assumption) ?_
      | refine WR.ai hz rfl rfl rfl rfl (by first | with_reducible rfl | with_reducible assumption) (by omega) ?_
      | refine WR.si hz rfl rfl rfl rfl (by first | with_reducible rfl | with_reducible assumption) (by omega) ?_
      | refine WR.az hz rfl rfl rfl rfl (by first | with_reducible rfl | with_reducible assumption) (by omega) ?_
      | refine WR.sz hz rfl rfl rfl rfl (by first | with_reducible rfl | with_reducible assumption) (by omega) (by decide) ?_
      | refine WR.pi hz rfl ?_
      | refine WR.rt rfl rfl rfl rfl ?_
      | refine WR.rz rfl rfl (by decide) ?_))
  refine WR.tso rfl hy ?_
  repeat' (first
      | (with_reducible refine WR.lt (by omega) (by omega) (fun _ => ?_) (fun _ => ?_) <;> try (exfalso; omega))
      | (with_reducible refine WR.le (by omega) (by omega) (fun _ => ?_) (fun _ => ?_) <;> try (exfalso; omega))
      | (with_reducible refine WR.eq (by omega) (by omega) (fun _ => ?_) (fun _ => ?_) <;> try (exfalso; omega))
      | (with_reducible refine WR.ne (by omega) (by omega) (fun _ => ?_) (fun _ => ?_) <;> try (exfalso; omega))
      | with_reducible refine WR.lt0 (by omega) ?_
      | with_reducible refine WR.ge0 (by omega) ?_
      | (with_reducible refine WR.bz (fun _ => ?_) (fun _ => ?_) <;> try contradiction)
      | (with_reducible refine WR.bn (fun _ => ?_) (fun _ => ?_) <;> try contradiction)
      | (with_reducible refine WR.br (fun _ => ?_) (fun _ => ?_) <;> try contradiction)
      | refine WR.gik hz rfl (by with_reducible assumption) ?_
      | refine WR.gi hz rfl ?_
      | refine WR.gr hz rfl rfl ?_
      | refine WR.addn rfl (by with_reducible rfl) (by with_reducible rfl) ?_
      | refine WR.muln rfl (by with_reducible rfl) (by with_reducible rfl) ?_
      | refine WR.subn rfl (by with_reducible rfl) (by with_reducible rfl) (by omega) ?_
      | (refine WR.incn rfl rfl ?_; dsimp only [List.set])
      | (refine WR.go rfl rfl ?_; try dsimp only [List.set])
      | refine WR.aik hz rfl rfl rfl rfl (by first | with_reducible rfl | with_reducible assumption) (by omega) (by with_reducible assumption) ?_
      | refine WR.ai hz rfl rfl rfl rfl (by first | with_reducible rfl | with_reducible assumption) (by omega) ?_
      | refine WR.si hz rfl rfl rfl rfl (by first | with_reducible rfl | with_reducible assumption) (by omega) ?_
      | refine WR.az hz rfl rfl rfl rfl (by first | with_reducible rfl | with_reducible assumption) (by omega) ?_
      | refine WR.sz hz rfl rfl rfl rfl (by first | with_reducible rfl | with_reducible assumption) (by omega) (by decide) ?_
      | refine WR.pi hz rfl ?_
      | refine WR.rt rfl rfl rfl rfl ?_
      | refine WR.rz rfl rfl (by decide) ?_)
  exact ⟨rfl, rfl⟩
set_option maxHeartbeats 1000000 in
theorem r_message_n (d : Nat) (I : xI) {x y : Int32} (hw : f_wok I) (hx : x < 0 ∨ nI (f_w I) ≤ x) (hz : zok Z) : ER Z (d + 1) 134 I [.ref 74, .int x, .int y] (fun I' v => I' = I ∧ v = some (.int (-1))) := by
  have hw1 := hw.1
  refine ER.of (ls := [some (.ref 74), some (.int x), some (.int y)]) rfl rfl ?_
  iterate 3 (first
      | (with_reducible refine WR.lt (by omega) (by omega) (fun _ => ?_) (fun _ => ?_) <;> try (exfalso; omega))
      | (with_reducible refine WR.le (by omega) (by omega) (fun _ => ?_) (fun _ => ?_) <;> try (exfalso; omega))
      | (with_reducible refine WR.eq (by omega) (by omega) (fun _ => ?_) (fun _ => ?_) <;> try (exfalso; omega))
      | (with_reducible refine WR.ne (by omega) (by omega) (fun _ => ?_) (fun _ => ?_) <;> try (exfalso; omega))
      | with_reducible refine WR.lt0 (by omega) ?_
      | with_reducible refine WR.ge0 (by omega) ?_
      | (with_reducible refine WR.bz (fun _ => ?_) (fun _ => ?_) <;> try contradiction)
      | (with_reducible refine WR.bn (fun _ => ?_) (fun _ => ?_) <;> try contradiction)
      | (with_reducible refine WR.br (fun _ => ?_) (fun _ => ?_) <;> try contradiction)
      | refine WR.gik hz rfl (by with_reducible assumption) ?_
      | refine WR.gi hz rfl ?_
      | refine WR.gr hz rfl rfl ?_
      | refine WR.addn rfl (by with_reducible rfl) (by with_reducible rfl) ?_
      | refine WR.muln rfl (by with_reducible rfl) (by with_reducible rfl) ?_
      | refine WR.subn rfl (by with_reducible rfl) (by with_reducible rfl) (by omega) ?_
      | (refine WR.incn rfl rfl ?_; dsimp only [List.set])
      | (refine WR.go rfl rfl ?_; try dsimp only [List.set])
      | refine WR.aik hz rfl rfl rfl rfl (by first | with_reducible rfl | with_reducible assumption) (by omega) (by with_reducible assumption) ?_
      | refine WR.ai hz rfl rfl rfl rfl (by first | with_reducible rfl | with_reducible assumption) (by omega) ?_
      | refine WR.si hz rfl rfl rfl rfl (by first | with_reducible rfl | with_reducible assumption) (by omega) ?_
      | refine WR.az hz rfl rfl rfl rfl (by first | with_reducible rfl | with_reducible assumption) (by omega) ?_
      | refine WR.sz hz rfl rfl rfl rfl (by first | with_reducible rfl | with_reducible assumption) (by omega) (by decide) ?_
      | refine WR.pi hz rfl ?_
      | refine WR.rt rfl rfl rfl rfl ?_
      | refine WR.rz rfl rfl (by decide) ?_)
  · repeat' (first
      | (with_reducible refine WR.lt (by omega) (by omega) (fun _ => ?_) (fun _ => ?_) <;> try (exfalso; omega))
      | (with_reducible refine WR.le (by omega) (by omega) (fun _ => ?_) (fun _ => ?_) <;> try (exfalso; omega))
      | (with_reducible refine WR.eq (by omega) (by omega) (fun _ => ?_) (fun _ => ?_) <;> try (exfalso; omega))
      | (with_reducible refine WR.ne (by omega) (by omega) (fun _ => ?_) (fun _ => ?_) <;> try (exfalso; omega))
      | with_reducible refine WR.lt0 (by omega) ?_
      | with_reducible refine WR.ge0 (by omega) ?_
      | (with_reducible refine WR.bz (fun _ => ?_) (fun _ => ?_) <;> try contradiction)
      | (with_reducible refine WR.bn (fun _ => ?_) (fun _ => ?_) <;> try contradiction)
      | (with_reducible refine WR.br (fun _ => ?_) (fun _ => ?_) <;> try contradiction)
      | refine WR.gik hz rfl (by with_reducible assumption) ?_
      | refine WR.gi hz rfl ?_
      | refine WR.gr hz rfl rfl ?_
      | refine WR.addn rfl (by with_reducible rfl) (by with_reducible rfl) ?_
      | refine WR.muln rfl (by with_reducible rfl) (by with_reducible rfl) ?_
      | refine WR.subn rfl (by with_reducible rfl) (by with_reducible rfl) (by omega) ?_
      | (refine WR.incn rfl rfl ?_; dsimp only [List.set])
      | (refine WR.go rfl rfl ?_; try dsimp only [List.set])
      | refine WR.aik hz rfl rfl rfl rfl (by first | with_reducible rfl | with_reducible assumption) (by omega) (by with_reducible assumption) ?_
      | refine WR.ai hz rfl rfl rfl rfl (by first | with_reducible rfl | with_reducible assumption) (by omega) ?_
      | refine WR.si hz rfl rfl rfl rfl (by first | with_reducible rfl | with_reducible assumption) (by omega) ?_
      | refine WR.az hz rfl rfl rfl rfl (by first | with_reducible rfl | with_reducible assumption) (by omega) ?_
      | refine WR.sz hz rfl rfl rfl rfl (by first | with_reducible rfl | with_reducible assumption) (by omega) (by decide) ?_
      | refine WR.pi hz rfl ?_
      | refine WR.rt rfl rfl rfl rfl ?_
      | refine WR.rz rfl rfl (by decide) ?_)
    exact ⟨rfl, rfl⟩
  · rename_i h
    iterate 5 (first
      | (with_reducible refine WR.lt (by omega) (by omega) (fun _ => ?_) (fun _ => ?_) <;> try (exfalso; omega))
      | (with_reducible refine WR.le (by omega) (by omega) (fun _ => ?_) (fun _ => ?_) <;> try (exfalso; omega))
      | (with_reducible refine WR.eq (by omega) (by omega) (fun _ => ?_) (fun _ => ?_) <;> try (exfalso; omega))
      | (with_reducible refine WR.ne (by omega) (by omega) (fun _ => ?_) (fun _ => ?_) <;> try (exfalso; omega))
      | with_reducible refine WR.lt0 (by omega) ?_
      | with_reducible refine WR.ge0 (by omega) ?_
      | (with_reducible refine WR.bz (fun _ => ?_) (fun _ => ?_) <;> try contradiction)
      | (with_reducible refine WR.bn (fun _ => ?_) (fun _ => ?_) <;> try contradiction)
      | (with_reducible refine WR.br (fun _ => ?_) (fun _ => ?_) <;> try contradiction)
      | refine WR.gik hz rfl (by with_reducible assumption) ?_
      | refine WR.gi hz rfl ?_
      | refine WR.gr hz rfl rfl ?_
      | refine WR.addn rfl (by with_reducible rfl) (by with_reducible rfl) ?_
      | refine WR.muln rfl (by with_reducible rfl) (by with_reducible rfl) ?_
      | refine WR.subn rfl (by with_reducible rfl) (by with_reducible rfl) (by omega) ?_
      | (refine WR.incn rfl rfl ?_; dsimp only [List.set])
      | (refine WR.go rfl rfl ?_; try dsimp only [List.set])
      | refine WR.aik hz rfl rfl rfl rfl (by first | with_reducible rfl | with_reducible assumption) (by omega) (by with_reducible assumption) ?_
      | refine WR.ai hz rfl rfl rfl rfl (by first | with_reducible rfl | with_reducible assumption) (by omega) ?_
      | refine WR.si hz rfl rfl rfl rfl (by first | with_reducible rfl | with_reducible assumption) (by omega) ?_
      | refine WR.az hz rfl rfl rfl rfl (by first | with_reducible rfl | with_reducible assumption) (by omega) ?_
      | refine WR.sz hz rfl rfl rfl rfl (by first | with_reducible rfl | with_reducible assumption) (by omega) (by decide) ?_
      | refine WR.pi hz rfl ?_
      | refine WR.rt rfl rfl rfl rfl ?_
      | refine WR.rz rfl rfl (by decide) ?_)
    · rename_i h2
      exact absurd h2 (Int32.not_lt.mpr (hx.resolve_left h))
    · repeat' (first
      | (with_reducible refine WR.lt (by omega) (by omega) (fun _ => ?_) (fun _ => ?_) <;> try (exfalso; omega))
      | (with_reducible refine WR.le (by omega) (by omega) (fun _ => ?_) (fun _ => ?_) <;> try (exfalso; omega))
      | (with_reducible refine WR.eq (by omega) (by omega) (fun _ => ?_) (fun _ => ?_) <;> try (exfalso; omega))
      | (with_reducible refine WR.ne (by omega) (by omega) (fun _ => ?_) (fun _ => ?_) <;> try (exfalso; omega))
      | with_reducible refine WR.lt0 (by omega) ?_
      | with_reducible refine WR.ge0 (by omega) ?_
      | (with_reducible refine WR.bz (fun _ => ?_) (fun _ => ?_) <;> try contradiction)
      | (with_reducible refine WR.bn (fun _ => ?_) (fun _ => ?_) <;> try contradiction)
      | (with_reducible refine WR.br (fun _ => ?_) (fun _ => ?_) <;> try contradiction)
      | refine WR.gik hz rfl (by with_reducible assumption) ?_
      | refine WR.gi hz rfl ?_
      | refine WR.gr hz rfl rfl ?_
      | refine WR.addn rfl (by with_reducible rfl) (by with_reducible rfl) ?_
      | refine WR.muln rfl (by with_reducible rfl) (by with_reducible rfl) ?_
      | refine WR.subn rfl (by with_reducible rfl) (by with_reducible rfl) (by omega) ?_
      | (refine WR.incn rfl rfl ?_; dsimp only [List.set])
      | (refine WR.go rfl rfl ?_; try dsimp only [List.set])
      | refine WR.aik hz rfl rfl rfl rfl (by first | with_reducible rfl | with_reducible assumption) (by omega) (by with_reducible assumption) ?_
      | refine WR.ai hz rfl rfl rfl rfl (by first | with_reducible rfl | with_reducible assumption) (by omega) ?_
      | refine WR.si hz rfl rfl rfl rfl (by first | with_reducible rfl | with_reducible assumption) (by omega) ?_
      | refine WR.az hz rfl rfl rfl rfl (by first | with_reducible rfl | with_reducible assumption) (by omega) ?_
      | refine WR.sz hz rfl rfl rfl rfl (by first | with_reducible rfl | with_reducible assumption) (by omega) (by decide) ?_
      | refine WR.pi hz rfl ?_
      | refine WR.rt rfl rfl rfl rfl ?_
      | refine WR.rz rfl rfl (by decide) ?_)
      exact ⟨rfl, rfl⟩
set_option maxHeartbeats 1000000 in
theorem r_look_n (d : Nat) (I : xI) {x y : Int32} (hx : f_rep x = false) (hz : zok Z) : ER Z (d + 2) 136 I [.ref 74, .int x, .int y] (fun I' v => I' = I ∧ v = some (.int (-1))) := by
  refine ER.of (ls := [some (.ref 74), some (.int x), some (.int y), none, none]) rfl rfl ?_
  iterate 1 (first
      | (with_reducible refine WR.lt (by omega) (by omega) (fun _ => ?_) (fun _ => ?_) <;> try (exfalso; omega))
      | (with_reducible refine WR.le (by omega) (by omega) (fun _ => ?_) (fun _ => ?_) <;> try (exfalso; omega))
      | (with_reducible refine WR.eq (by omega) (by omega) (fun _ => ?_) (fun _ => ?_) <;> try (exfalso; omega))
      | (with_reducible refine WR.ne (by omega) (by omega) (fun _ => ?_) (fun _ => ?_) <;> try (exfalso; omega))
      | with_reducible refine WR.lt0 (by omega) ?_
      | with_reducible refine WR.ge0 (by omega) ?_
      | (with_reducible refine WR.bz (fun _ => ?_) (fun _ => ?_) <;> try contradiction)
      | (with_reducible refine WR.bn (fun _ => ?_) (fun _ => ?_) <;> try contradiction)
      | (with_reducible refine WR.br (fun _ => ?_) (fun _ => ?_) <;> try contradiction)
      | refine WR.gik hz rfl (by with_reducible assumption) ?_
      | refine WR.gi hz rfl ?_
      | refine WR.gr hz rfl rfl ?_
      | refine WR.addn rfl (by with_reducible rfl) (by with_reducible rfl) ?_
      | refine WR.muln rfl (by with_reducible rfl) (by with_reducible rfl) ?_
      | refine WR.subn rfl (by with_reducible rfl) (by with_reducible rfl) (by omega) ?_
      | (refine WR.incn rfl rfl ?_; dsimp only [List.set])
      | (refine WR.go rfl rfl ?_; try dsimp only [List.set])
      | refine WR.aik hz rfl rfl rfl rfl (by first | with_reducible rfl | with_reducible assumption) (by omega) (by with_reducible assumption) ?_
      | refine WR.ai hz rfl rfl rfl rfl (by first | with_reducible rfl | with_reducible assumption) (by omega) ?_
      | refine WR.si hz rfl rfl rfl rfl (by first | with_reducible rfl | with_reducible assumption) (by omega) ?_
      | refine WR.az hz rfl rfl rfl rfl (by first | with_reducible rfl | with_reducible assumption) (by omega) ?_
      | refine WR.sz hz rfl rfl rfl rfl (by first | with_reducible rfl | with_reducible assumption) (by omega) (by decide) ?_
      | refine WR.pi hz rfl ?_
      | refine WR.rt rfl rfl rfl rfl ?_
      | refine WR.rz rfl rfl (by decide) ?_)
  refine WR.S1i rfl rfl (r_replica d I x hz) ?_
  rw [hx]
  repeat' (first
      | (with_reducible refine WR.lt (by omega) (by omega) (fun _ => ?_) (fun _ => ?_) <;> try (exfalso; omega))
      | (with_reducible refine WR.le (by omega) (by omega) (fun _ => ?_) (fun _ => ?_) <;> try (exfalso; omega))
      | (with_reducible refine WR.eq (by omega) (by omega) (fun _ => ?_) (fun _ => ?_) <;> try (exfalso; omega))
      | (with_reducible refine WR.ne (by omega) (by omega) (fun _ => ?_) (fun _ => ?_) <;> try (exfalso; omega))
      | with_reducible refine WR.lt0 (by omega) ?_
      | with_reducible refine WR.ge0 (by omega) ?_
      | (with_reducible refine WR.bz (fun _ => ?_) (fun _ => ?_) <;> try contradiction)
      | (with_reducible refine WR.bn (fun _ => ?_) (fun _ => ?_) <;> try contradiction)
      | (with_reducible refine WR.br (fun _ => ?_) (fun _ => ?_) <;> try contradiction)
      | refine WR.gik hz rfl (by with_reducible assumption) ?_
      | refine WR.gi hz rfl ?_
      | refine WR.gr hz rfl rfl ?_
      | refine WR.addn rfl (by with_reducible rfl) (by with_reducible rfl) ?_
      | refine WR.muln rfl (by with_reducible rfl) (by with_reducible rfl) ?_
      | refine WR.subn rfl (by with_reducible rfl) (by with_reducible rfl) (by omega) ?_
      | (refine WR.incn rfl rfl ?_; dsimp only [List.set])
      | (refine WR.go rfl rfl ?_; try dsimp only [List.set])
      | refine WR.aik hz rfl rfl rfl rfl (by first | with_reducible rfl | with_reducible assumption) (by omega) (by with_reducible assumption) ?_
      | refine WR.ai hz rfl rfl rfl rfl (by first | with_reducible rfl | with_reducible assumption) (by omega) ?_
      | refine WR.si hz rfl rfl rfl rfl (by first | with_reducible rfl | with_reducible assumption) (by omega) ?_
      | refine WR.az hz rfl rfl rfl rfl (by first | with_reducible rfl | with_reducible assumption) (by omega) ?_
      | refine WR.sz hz rfl rfl rfl rfl (by first | with_reducible rfl | with_reducible assumption) (by omega) (by decide) ?_
      | refine WR.pi hz rfl ?_
      | refine WR.rt rfl rfl rfl rfl ?_
      | refine WR.rz rfl rfl (by decide) ?_)
  exact ⟨rfl, rfl⟩
/-- look's start: what it reckons before it chooses -/
theorem r_lookS (d : Nat) (I : xI) {r e : Nat} {y : Int32} {Q : xI → Option Value → Prop} (hr : r < 5) (he : I 83 r = nI e) (he2 : e ≤ 24) (hf : f_wf I) (hz : zok Z)
    (h : WR Z (d + 3) 136 31 [some (.ref 74), some (.int (nI r)), some (.int y), some (.int (bI (f_camp I r))), some (.int (f_mem I e (e + 1)))] [.int y] (f_rp I e) Q) : ER Z (d + 4) 136 I [.ref 74, .int (nI r), .int y] Q := by
  refine ER.of (ls := [some (.ref 74), some (.int (nI r)), some (.int y), none, none]) rfl rfl ?_
  iterate 1 (first
      | (with_reducible refine WR.lt (by omega) (by omega) (fun _ => ?_) (fun _ => ?_) <;> try (exfalso; omega))
      | (with_reducible refine WR.le (by omega) (by omega) (fun _ => ?_) (fun _ => ?_) <;> try (exfalso; omega))
      | (with_reducible refine WR.eq (by omega) (by omega) (fun _ => ?_) (fun _ => ?_) <;> try (exfalso; omega))
      | (with_reducible refine WR.ne (by omega) (by omega) (fun _ => ?_) (fun _ => ?_) <;> try (exfalso; omega))
      | with_reducible refine WR.lt0 (by omega) ?_
      | with_reducible refine WR.ge0 (by omega) ?_
      | (with_reducible refine WR.bz (fun _ => ?_) (fun _ => ?_) <;> try contradiction)
      | (with_reducible refine WR.bn (fun _ => ?_) (fun _ => ?_) <;> try contradiction)
      | (with_reducible refine WR.br (fun _ => ?_) (fun _ => ?_) <;> try contradiction)
      | refine WR.gik hz rfl (by with_reducible assumption) ?_
      | refine WR.gi hz rfl ?_
      | refine WR.gr hz rfl rfl ?_
      | refine WR.addn rfl (by with_reducible rfl) (by with_reducible rfl) ?_
      | refine WR.muln rfl (by with_reducible rfl) (by with_reducible rfl) ?_
      | refine WR.subn rfl (by with_reducible rfl) (by with_reducible rfl) (by omega) ?_
      | (refine WR.incn rfl rfl ?_; dsimp only [List.set])
      | (refine WR.go rfl rfl ?_; try dsimp only [List.set])
      | refine WR.aik hz rfl rfl rfl rfl (by first | with_reducible rfl | with_reducible assumption) (by omega) (by with_reducible assumption) ?_
      | refine WR.ai hz rfl rfl rfl rfl (by first | with_reducible rfl | with_reducible assumption) (by omega) ?_
      | refine WR.si hz rfl rfl rfl rfl (by first | with_reducible rfl | with_reducible assumption) (by omega) ?_
      | refine WR.az hz rfl rfl rfl rfl (by first | with_reducible rfl | with_reducible assumption) (by omega) ?_
      | refine WR.sz hz rfl rfl rfl rfl (by first | with_reducible rfl | with_reducible assumption) (by omega) (by decide) ?_
      | refine WR.pi hz rfl ?_
      | refine WR.rt rfl rfl rfl rfl ?_
      | refine WR.rz rfl rfl (by decide) ?_)
  refine WR.S1i rfl rfl (r_replica (d + 2) I (nI r) hz) ?_
  rw [f_rep_n hr]
  repeat' ((with_reducible fail_if_success show WR _ _ _ 11 _ _ _ _); (first
      | (with_reducible refine WR.lt (by omega) (by omega) (fun _ => ?_) (fun _ => ?_) <;> try (exfalso; omega))
      | (with_reducible refine WR.le (by omega) (by omega) (fun _ => ?_) (fun _ => ?_) <;> try (exfalso; omega))
      | (with_reducible refine WR.eq (by omega) (by omega) (fun _ => ?_) (fun _ => ?_) <;> try (exfalso; omega))
      | (with_reducible refine WR.ne (by omega) (by omega) (fun _ => ?_) (fun _ => ?_) <;> try (exfalso; omega))
      | with_reducible refine WR.lt0 (by omega) ?_
      | with_reducible refine WR.ge0 (by omega) ?_
      | (with_reducible refine WR.bz (fun _ => ?_) (fun _ => ?_) <;> try contradiction)
      | (with_reducible refine WR.bn (fun _ => ?_) (fun _ => ?_) <;> try contradiction)
      | (with_reducible refine WR.br (fun _ => ?_) (fun _ => ?_) <;> try contradiction)
      | refine WR.gik hz rfl (by with_reducible assumption) ?_
      | refine WR.gi hz rfl ?_
      | refine WR.gr hz rfl rfl ?_
      | refine WR.addn rfl (by with_reducible rfl) (by with_reducible rfl) ?_
      | refine WR.muln rfl (by with_reducible rfl) (by with_reducible rfl) ?_
      | refine WR.subn rfl (by with_reducible rfl) (by with_reducible rfl) (by omega) ?_
      | (refine WR.incn rfl rfl ?_; dsimp only [List.set])
      | (refine WR.go rfl rfl ?_; try dsimp only [List.set])
      | refine WR.aik hz rfl rfl rfl rfl (by first | with_reducible rfl | with_reducible assumption) (by omega) (by with_reducible assumption) ?_
      | refine WR.ai hz rfl rfl rfl rfl (by first | with_reducible rfl | with_reducible assumption) (by omega) ?_
      | refine WR.si hz rfl rfl rfl rfl (by first | with_reducible rfl | with_reducible assumption) (by omega) ?_
      | refine WR.az hz rfl rfl rfl rfl (by first | with_reducible rfl | with_reducible assumption) (by omega) ?_
      | refine WR.sz hz rfl rfl rfl rfl (by first | with_reducible rfl | with_reducible assumption) (by omega) (by decide) ?_
      | refine WR.pi hz rfl ?_
      | refine WR.rt rfl rfl rfl rfl ?_
      | refine WR.rz rfl rfl (by decide) ?_))
  refine WR.V1i hz rfl rfl (r_campaigns (d + 2) I hr hz) ?_
  repeat' ((with_reducible fail_if_success show WR _ _ _ 25 _ _ _ _); (first
      | (with_reducible refine WR.lt (by omega) (by omega) (fun _ => ?_) (fun _ => ?_) <;> try (exfalso; omega))
      | (with_reducible refine WR.le (by omega) (by omega) (fun _ => ?_) (fun _ => ?_) <;> try (exfalso; omega))
      | (with_reducible refine WR.eq (by omega) (by omega) (fun _ => ?_) (fun _ => ?_) <;> try (exfalso; omega))
      | (with_reducible refine WR.ne (by omega) (by omega) (fun _ => ?_) (fun _ => ?_) <;> try (exfalso; omega))
      | with_reducible refine WR.lt0 (by omega) ?_
      | with_reducible refine WR.ge0 (by omega) ?_
      | (with_reducible refine WR.bz (fun _ => ?_) (fun _ => ?_) <;> try contradiction)
      | (with_reducible refine WR.bn (fun _ => ?_) (fun _ => ?_) <;> try contradiction)
      | (with_reducible refine WR.br (fun _ => ?_) (fun _ => ?_) <;> try contradiction)
      | refine WR.gik hz rfl (by with_reducible assumption) ?_
      | refine WR.gi hz rfl ?_
      | refine WR.gr hz rfl rfl ?_
      | refine WR.addn rfl (by with_reducible rfl) (by with_reducible rfl) ?_
      | refine WR.muln rfl (by with_reducible rfl) (by with_reducible rfl) ?_
      | refine WR.subn rfl (by with_reducible rfl) (by with_reducible rfl) (by omega) ?_
      | (refine WR.incn rfl rfl ?_; dsimp only [List.set])
      | (refine WR.go rfl rfl ?_; try dsimp only [List.set])
      | refine WR.aik hz rfl rfl rfl rfl (by first | with_reducible rfl | with_reducible assumption) (by omega) (by with_reducible assumption) ?_
      | refine WR.ai hz rfl rfl rfl rfl (by first | with_reducible rfl | with_reducible assumption) (by omega) ?_
      | refine WR.si hz rfl rfl rfl rfl (by first | with_reducible rfl | with_reducible assumption) (by omega) ?_
      | refine WR.az hz rfl rfl rfl rfl (by first | with_reducible rfl | with_reducible assumption) (by omega) ?_
      | refine WR.sz hz rfl rfl rfl rfl (by first | with_reducible rfl | with_reducible assumption) (by omega) (by decide) ?_
      | refine WR.pi hz rfl ?_
      | refine WR.rt rfl rfl rfl rfl ?_
      | refine WR.rz rfl rfl (by decide) ?_))
  refine WR.V2i hz rfl rfl (r_members d I hr he he2 (by omega) hf hz) ?_
  repeat' ((with_reducible fail_if_success show WR _ _ _ 31 _ _ _ _); (first
      | (with_reducible refine WR.lt (by omega) (by omega) (fun _ => ?_) (fun _ => ?_) <;> try (exfalso; omega))
      | (with_reducible refine WR.le (by omega) (by omega) (fun _ => ?_) (fun _ => ?_) <;> try (exfalso; omega))
      | (with_reducible refine WR.eq (by omega) (by omega) (fun _ => ?_) (fun _ => ?_) <;> try (exfalso; omega))
      | (with_reducible refine WR.ne (by omega) (by omega) (fun _ => ?_) (fun _ => ?_) <;> try (exfalso; omega))
      | with_reducible refine WR.lt0 (by omega) ?_
      | with_reducible refine WR.ge0 (by omega) ?_
      | (with_reducible refine WR.bz (fun _ => ?_) (fun _ => ?_) <;> try contradiction)
      | (with_reducible refine WR.bn (fun _ => ?_) (fun _ => ?_) <;> try contradiction)
      | (with_reducible refine WR.br (fun _ => ?_) (fun _ => ?_) <;> try contradiction)
      | refine WR.gik hz rfl (by with_reducible assumption) ?_
      | refine WR.gi hz rfl ?_
      | refine WR.gr hz rfl rfl ?_
      | refine WR.addn rfl (by with_reducible rfl) (by with_reducible rfl) ?_
      | refine WR.muln rfl (by with_reducible rfl) (by with_reducible rfl) ?_
      | refine WR.subn rfl (by with_reducible rfl) (by with_reducible rfl) (by omega) ?_
      | (refine WR.incn rfl rfl ?_; dsimp only [List.set])
      | (refine WR.go rfl rfl ?_; try dsimp only [List.set])
      | refine WR.aik hz rfl rfl rfl rfl (by first | with_reducible rfl | with_reducible assumption) (by omega) (by with_reducible assumption) ?_
      | refine WR.ai hz rfl rfl rfl rfl (by first | with_reducible rfl | with_reducible assumption) (by omega) ?_
      | refine WR.si hz rfl rfl rfl rfl (by first | with_reducible rfl | with_reducible assumption) (by omega) ?_
      | refine WR.az hz rfl rfl rfl rfl (by first | with_reducible rfl | with_reducible assumption) (by omega) ?_
      | refine WR.sz hz rfl rfl rfl rfl (by first | with_reducible rfl | with_reducible assumption) (by omega) (by decide) ?_
      | refine WR.pi hz rfl ?_
      | refine WR.rt rfl rfl rfl rfl ?_
      | refine WR.rz rfl rfl (by decide) ?_))
  exact h
set_option maxHeartbeats 1000000 in
theorem r_look0 (d : Nat) (I : xI) {r e : Nat} (hr : r < 5) (he : I 83 r = nI e) (he2 : e ≤ 24) (hf : f_wf I) (hz : zok Z) : ER Z (d + 4) 136 I [.ref 74, .int (nI r), .int (nI 0)] (fun I' v => I' = f_rp I e ∧ v = some (.int (I 74 7 >>> (nI r &&& 31) &&& nI 1))) := by
  refine r_lookS d I hr he he2 hf hz ?_
  refine WR.ts rfl (by decide) rfl ?_
  repeat' (first
      | (with_reducible refine WR.lt (by omega) (by omega) (fun _ => ?_) (fun _ => ?_) <;> try (exfalso; omega))
      | (with_reducible refine WR.le (by omega) (by omega) (fun _ => ?_) (fun _ => ?_) <;> try (exfalso; omega))
      | (with_reducible refine WR.eq (by omega) (by omega) (fun _ => ?_) (fun _ => ?_) <;> try (exfalso; omega))
      | (with_reducible refine WR.ne (by omega) (by omega) (fun _ => ?_) (fun _ => ?_) <;> try (exfalso; omega))
      | with_reducible refine WR.lt0 (by omega) ?_
      | with_reducible refine WR.ge0 (by omega) ?_
      | (with_reducible refine WR.bz (fun _ => ?_) (fun _ => ?_) <;> try contradiction)
      | (with_reducible refine WR.bn (fun _ => ?_) (fun _ => ?_) <;> try contradiction)
      | (with_reducible refine WR.br (fun _ => ?_) (fun _ => ?_) <;> try contradiction)
      | refine WR.gik hz rfl (by with_reducible assumption) ?_
      | refine WR.gi hz rfl ?_
      | refine WR.gr hz rfl rfl ?_
      | refine WR.addn rfl (by with_reducible rfl) (by with_reducible rfl) ?_
      | refine WR.muln rfl (by with_reducible rfl) (by with_reducible rfl) ?_
      | refine WR.subn rfl (by with_reducible rfl) (by with_reducible rfl) (by omega) ?_
      | (refine WR.incn rfl rfl ?_; dsimp only [List.set])
      | (refine WR.go rfl rfl ?_; try dsimp only [List.set])
      | refine WR.aik hz rfl rfl rfl rfl (by first | with_reducible rfl | with_reducible assumption) (by omega) (by with_reducible assumption) ?_
      | refine WR.ai hz rfl rfl rfl rfl (by first | with_reducible rfl | with_reducible assumption) (by omega) ?_
      | refine WR.si hz rfl rfl rfl rfl (by first | with_reducible rfl | with_reducible assumption) (by omega) ?_
      | refine WR.az hz rfl rfl rfl rfl (by first | with_reducible rfl | with_reducible assumption) (by omega) ?_
      | refine WR.sz hz rfl rfl rfl rfl (by first | with_reducible rfl | with_reducible assumption) (by omega) (by decide) ?_
      | refine WR.pi hz rfl ?_
      | refine WR.rt rfl rfl rfl rfl ?_
      | refine WR.rz rfl rfl (by decide) ?_)
  exact ⟨rfl, by first | rfl | rw [f_rp_o I (by decide)]⟩
set_option maxHeartbeats 1000000 in
theorem r_look1 (d : Nat) (I : xI) {r e : Nat} (hr : r < 5) (he : I 83 r = nI e) (he2 : e ≤ 24) (hf : f_wf I) (hz : zok Z) : ER Z (d + 4) 136 I [.ref 74, .int (nI r), .int (nI 1)] (fun I' v => I' = f_rp I e ∧ v = some (.int (I 81 r))) := by
  refine r_lookS d I hr he he2 hf hz ?_
  refine WR.ts rfl (by decide) rfl ?_
  repeat' (first
      | (with_reducible refine WR.lt (by omega) (by omega) (fun _ => ?_) (fun _ => ?_) <;> try (exfalso; omega))
      | (with_reducible refine WR.le (by omega) (by omega) (fun _ => ?_) (fun _ => ?_) <;> try (exfalso; omega))
      | (with_reducible refine WR.eq (by omega) (by omega) (fun _ => ?_) (fun _ => ?_) <;> try (exfalso; omega))
      | (with_reducible refine WR.ne (by omega) (by omega) (fun _ => ?_) (fun _ => ?_) <;> try (exfalso; omega))
      | with_reducible refine WR.lt0 (by omega) ?_
      | with_reducible refine WR.ge0 (by omega) ?_
      | (with_reducible refine WR.bz (fun _ => ?_) (fun _ => ?_) <;> try contradiction)
      | (with_reducible refine WR.bn (fun _ => ?_) (fun _ => ?_) <;> try contradiction)
      | (with_reducible refine WR.br (fun _ => ?_) (fun _ => ?_) <;> try contradiction)
      | refine WR.gik hz rfl (by with_reducible assumption) ?_
      | refine WR.gi hz rfl ?_
      | refine WR.gr hz rfl rfl ?_
      | refine WR.addn rfl (by with_reducible rfl) (by with_reducible rfl) ?_
      | refine WR.muln rfl (by with_reducible rfl) (by with_reducible rfl) ?_
      | refine WR.subn rfl (by with_reducible rfl) (by with_reducible rfl) (by omega) ?_
      | (refine WR.incn rfl rfl ?_; dsimp only [List.set])
      | (refine WR.go rfl rfl ?_; try dsimp only [List.set])
      | refine WR.aik hz rfl rfl rfl rfl (by first | with_reducible rfl | with_reducible assumption) (by omega) (by with_reducible assumption) ?_
      | refine WR.ai hz rfl rfl rfl rfl (by first | with_reducible rfl | with_reducible assumption) (by omega) ?_
      | refine WR.si hz rfl rfl rfl rfl (by first | with_reducible rfl | with_reducible assumption) (by omega) ?_
      | refine WR.az hz rfl rfl rfl rfl (by first | with_reducible rfl | with_reducible assumption) (by omega) ?_
      | refine WR.sz hz rfl rfl rfl rfl (by first | with_reducible rfl | with_reducible assumption) (by omega) (by decide) ?_
      | refine WR.pi hz rfl ?_
      | refine WR.rt rfl rfl rfl rfl ?_
      | refine WR.rz rfl rfl (by decide) ?_)
  exact ⟨rfl, by first | rfl | rw [f_rp_o I (by decide)]⟩
set_option maxHeartbeats 1000000 in
theorem r_look2 (d : Nat) (I : xI) {r e : Nat} (hr : r < 5) (he : I 83 r = nI e) (he2 : e ≤ 24) (hf : f_wf I) (hz : zok Z) : ER Z (d + 4) 136 I [.ref 74, .int (nI r), .int (nI 2)] (fun I' v => I' = f_rp I e ∧ v = some (.int (I 82 r))) := by
  refine r_lookS d I hr he he2 hf hz ?_
  refine WR.ts rfl (by decide) rfl ?_
  repeat' (first
      | (with_reducible refine WR.lt (by omega) (by omega) (fun _ => ?_) (fun _ => ?_) <;> try (exfalso; omega))
      | (with_reducible refine WR.le (by omega) (by omega) (fun _ => ?_) (fun _ => ?_) <;> try (exfalso; omega))
      | (with_reducible refine WR.eq (by omega) (by omega) (fun _ => ?_) (fun _ => ?_) <;> try (exfalso; omega))
      | (with_reducible refine WR.ne (by omega) (by omega) (fun _ => ?_) (fun _ => ?_) <;> try (exfalso; omega))
      | with_reducible refine WR.lt0 (by omega) ?_
      | with_reducible refine WR.ge0 (by omega) ?_
      | (with_reducible refine WR.bz (fun _ => ?_) (fun _ => ?_) <;> try contradiction)
      | (with_reducible refine WR.bn (fun _ => ?_) (fun _ => ?_) <;> try contradiction)
      | (with_reducible refine WR.br (fun _ => ?_) (fun _ => ?_) <;> try contradiction)
      | refine WR.gik hz rfl (by with_reducible assumption) ?_
      | refine WR.gi hz rfl ?_
      | refine WR.gr hz rfl rfl ?_
      | refine WR.addn rfl (by with_reducible rfl) (by with_reducible rfl) ?_
      | refine WR.muln rfl (by with_reducible rfl) (by with_reducible rfl) ?_
      | refine WR.subn rfl (by with_reducible rfl) (by with_reducible rfl) (by omega) ?_
      | (refine WR.incn rfl rfl ?_; dsimp only [List.set])
      | (refine WR.go rfl rfl ?_; try dsimp only [List.set])
      | refine WR.aik hz rfl rfl rfl rfl (by first | with_reducible rfl | with_reducible assumption) (by omega) (by with_reducible assumption) ?_
      | refine WR.ai hz rfl rfl rfl rfl (by first | with_reducible rfl | with_reducible assumption) (by omega) ?_
      | refine WR.si hz rfl rfl rfl rfl (by first | with_reducible rfl | with_reducible assumption) (by omega) ?_
      | refine WR.az hz rfl rfl rfl rfl (by first | with_reducible rfl | with_reducible assumption) (by omega) ?_
      | refine WR.sz hz rfl rfl rfl rfl (by first | with_reducible rfl | with_reducible assumption) (by omega) (by decide) ?_
      | refine WR.pi hz rfl ?_
      | refine WR.rt rfl rfl rfl rfl ?_
      | refine WR.rz rfl rfl (by decide) ?_)
  exact ⟨rfl, by first | rfl | rw [f_rp_o I (by decide)]⟩
set_option maxHeartbeats 1000000 in
theorem r_look3 (d : Nat) (I : xI) {r e : Nat} (hr : r < 5) (he : I 83 r = nI e) (he2 : e ≤ 24) (hf : f_wf I) (hz : zok Z) : ER Z (d + 4) 136 I [.ref 74, .int (nI r), .int (nI 3)] (fun I' v => I' = f_rp I e ∧ v = some (.int (I 83 r))) := by
  refine r_lookS d I hr he he2 hf hz ?_
  refine WR.ts rfl (by decide) rfl ?_
  repeat' (first
      | (with_reducible refine WR.lt (by omega) (by omega) (fun _ => ?_) (fun _ => ?_) <;> try (exfalso; omega))
      | (with_reducible refine WR.le (by omega) (by omega) (fun _ => ?_) (fun _ => ?_) <;> try (exfalso; omega))
      | (with_reducible refine WR.eq (by omega) (by omega) (fun _ => ?_) (fun _ => ?_) <;> try (exfalso; omega))
      | (with_reducible refine WR.ne (by omega) (by omega) (fun _ => ?_) (fun _ => ?_) <;> try (exfalso; omega))
      | with_reducible refine WR.lt0 (by omega) ?_
      | with_reducible refine WR.ge0 (by omega) ?_
      | (with_reducible refine WR.bz (fun _ => ?_) (fun _ => ?_) <;> try contradiction)
      | (with_reducible refine WR.bn (fun _ => ?_) (fun _ => ?_) <;> try contradiction)
      | (with_reducible refine WR.br (fun _ => ?_) (fun _ => ?_) <;> try contradiction)
      | refine WR.gik hz rfl (by with_reducible assumption) ?_
      | refine WR.gi hz rfl ?_
      | refine WR.gr hz rfl rfl ?_
      | refine WR.addn rfl (by with_reducible rfl) (by with_reducible rfl) ?_
      | refine WR.muln rfl (by with_reducible rfl) (by with_reducible rfl) ?_
      | refine WR.subn rfl (by with_reducible rfl) (by with_reducible rfl) (by omega) ?_
      | (refine WR.incn rfl rfl ?_; dsimp only [List.set])
      | (refine WR.go rfl rfl ?_; try dsimp only [List.set])
      | refine WR.aik hz rfl rfl rfl rfl (by first | with_reducible rfl | with_reducible assumption) (by omega) (by with_reducible assumption) ?_
      | refine WR.ai hz rfl rfl rfl rfl (by first | with_reducible rfl | with_reducible assumption) (by omega) ?_
      | refine WR.si hz rfl rfl rfl rfl (by first | with_reducible rfl | with_reducible assumption) (by omega) ?_
      | refine WR.az hz rfl rfl rfl rfl (by first | with_reducible rfl | with_reducible assumption) (by omega) ?_
      | refine WR.sz hz rfl rfl rfl rfl (by first | with_reducible rfl | with_reducible assumption) (by omega) (by decide) ?_
      | refine WR.pi hz rfl ?_
      | refine WR.rt rfl rfl rfl rfl ?_
      | refine WR.rz rfl rfl (by decide) ?_)
  exact ⟨rfl, by first | rfl | rw [f_rp_o I (by decide)]⟩
set_option maxHeartbeats 1000000 in
theorem r_look6 (d : Nat) (I : xI) {r e : Nat} (hr : r < 5) (he : I 83 r = nI e) (he2 : e ≤ 24) (hf : f_wf I) (hz : zok Z) : ER Z (d + 4) 136 I [.ref 74, .int (nI r), .int (nI 6)] (fun I' v => I' = f_rp I e ∧ v = some (.int (f_mem I e (e + 1)))) := by
  refine r_lookS d I hr he he2 hf hz ?_
  refine WR.ts rfl (by decide) rfl ?_
  repeat' (first
      | (with_reducible refine WR.lt (by omega) (by omega) (fun _ => ?_) (fun _ => ?_) <;> try (exfalso; omega))
      | (with_reducible refine WR.le (by omega) (by omega) (fun _ => ?_) (fun _ => ?_) <;> try (exfalso; omega))
      | (with_reducible refine WR.eq (by omega) (by omega) (fun _ => ?_) (fun _ => ?_) <;> try (exfalso; omega))
      | (with_reducible refine WR.ne (by omega) (by omega) (fun _ => ?_) (fun _ => ?_) <;> try (exfalso; omega))
      | with_reducible refine WR.lt0 (by omega) ?_
      | with_reducible refine WR.ge0 (by omega) ?_
      | (with_reducible refine WR.bz (fun _ => ?_) (fun _ => ?_) <;> try contradiction)
      | (with_reducible refine WR.bn (fun _ => ?_) (fun _ => ?_) <;> try contradiction)
      | (with_reducible refine WR.br (fun _ => ?_) (fun _ => ?_) <;> try contradiction)
      | refine WR.gik hz rfl (by with_reducible assumption) ?_
      | refine WR.gi hz rfl ?_
      | refine WR.gr hz rfl rfl ?_
      | refine WR.addn rfl (by with_reducible rfl) (by with_reducible rfl) ?_
      | refine WR.muln rfl (by with_reducible rfl) (by with_reducible rfl) ?_
      | refine WR.subn rfl (by with_reducible rfl) (by with_reducible rfl) (by omega) ?_
      | (refine WR.incn rfl rfl ?_; dsimp only [List.set])
      | (refine WR.go rfl rfl ?_; try dsimp only [List.set])
      | refine WR.aik hz rfl rfl rfl rfl (by first | with_reducible rfl | with_reducible assumption) (by omega) (by with_reducible assumption) ?_
      | refine WR.ai hz rfl rfl rfl rfl (by first | with_reducible rfl | with_reducible assumption) (by omega) ?_
      | refine WR.si hz rfl rfl rfl rfl (by first | with_reducible rfl | with_reducible assumption) (by omega) ?_
      | refine WR.az hz rfl rfl rfl rfl (by first | with_reducible rfl | with_reducible assumption) (by omega) ?_
      | refine WR.sz hz rfl rfl rfl rfl (by first | with_reducible rfl | with_reducible assumption) (by omega) (by decide) ?_
      | refine WR.pi hz rfl ?_
      | refine WR.rt rfl rfl rfl rfl ?_
      | refine WR.rz rfl rfl (by decide) ?_)
  exact ⟨rfl, by first | rfl | rw [f_rp_o I (by decide)]⟩
set_option maxHeartbeats 1000000 in
theorem r_look4 (d : Nat) (I : xI) {r e : Nat} (hr : r < 5) (he : I 83 r = nI e) (he2 : e ≤ 24) (hf : f_wf I) (hz : zok Z) : ER Z (d + 4) 136 I [.ref 74, .int (nI r), .int (nI 4)] (fun I' v => I' = f_rp I e ∧ v = some (.int (if f_camp I r = true then I 87 r else nI 0))) := by
  refine r_lookS d I hr he he2 hf hz ?_
  refine WR.ts rfl (by decide) rfl ?_
  repeat' (first
      | (with_reducible refine WR.lt (by omega) (by omega) (fun _ => ?_) (fun _ => ?_) <;> try (exfalso; omega))
      | (with_reducible refine WR.le (by omega) (by omega) (fun _ => ?_) (fun _ => ?_) <;> try (exfalso; omega))
      | (with_reducible refine WR.eq (by omega) (by omega) (fun _ => ?_) (fun _ => ?_) <;> try (exfalso; omega))
      | (with_reducible refine WR.ne (by omega) (by omega) (fun _ => ?_) (fun _ => ?_) <;> try (exfalso; omega))
      | with_reducible refine WR.lt0 (by omega) ?_
      | with_reducible refine WR.ge0 (by omega) ?_
      | (with_reducible refine WR.bz (fun _ => ?_) (fun _ => ?_) <;> try contradiction)
      | (with_reducible refine WR.bn (fun _ => ?_) (fun _ => ?_) <;> try contradiction)
      | (with_reducible refine WR.br (fun _ => ?_) (fun _ => ?_) <;> try contradiction)
      | refine WR.gik hz rfl (by with_reducible assumption) ?_
      | refine WR.gi hz rfl ?_
      | refine WR.gr hz rfl rfl ?_
      | refine WR.addn rfl (by with_reducible rfl) (by with_reducible rfl) ?_
      | refine WR.muln rfl (by with_reducible rfl) (by with_reducible rfl) ?_
      | refine WR.subn rfl (by with_reducible rfl) (by with_reducible rfl) (by omega) ?_
      | (refine WR.incn rfl rfl ?_; dsimp only [List.set])
      | (refine WR.go rfl rfl ?_; try dsimp only [List.set])
      | refine WR.aik hz rfl rfl rfl rfl (by first | with_reducible rfl | with_reducible assumption) (by omega) (by with_reducible assumption) ?_
      | refine WR.ai hz rfl rfl rfl rfl (by first | with_reducible rfl | with_reducible assumption) (by omega) ?_
      | refine WR.si hz rfl rfl rfl rfl (by first | with_reducible rfl | with_reducible assumption) (by omega) ?_
      | refine WR.az hz rfl rfl rfl rfl (by first | with_reducible rfl | with_reducible assumption) (by omega) ?_
      | refine WR.sz hz rfl rfl rfl rfl (by first | with_reducible rfl | with_reducible assumption) (by omega) (by decide) ?_
      | refine WR.pi hz rfl ?_
      | refine WR.rt rfl rfl rfl rfl ?_
      | refine WR.rz rfl rfl (by decide) ?_)
  · rename_i h; exact ⟨rfl, by rw [if_neg (by simp [h])]⟩
  · rename_i h; exact ⟨rfl, by rw [if_pos h, f_rp_o I (by decide)]⟩
set_option maxHeartbeats 1000000 in
theorem r_look7 (d : Nat) (I : xI) {r e : Nat} (hr : r < 5) (he : I 83 r = nI e) (he2 : e ≤ 24) (hf : f_wf I) (hz : zok Z) : ER Z (d + 4) 136 I [.ref 74, .int (nI r), .int (nI 7)] (fun I' v => I' = f_rp I e ∧ v = some (.int (if f_camp I r = true then I 88 r else nI 0))) := by
  refine r_lookS d I hr he he2 hf hz ?_
  refine WR.ts rfl (by decide) rfl ?_
  repeat' (first
      | (with_reducible refine WR.lt (by omega) (by omega) (fun _ => ?_) (fun _ => ?_) <;> try (exfalso; omega))
      | (with_reducible refine WR.le (by omega) (by omega) (fun _ => ?_) (fun _ => ?_) <;> try (exfalso; omega))
      | (with_reducible refine WR.eq (by omega) (by omega) (fun _ => ?_) (fun _ => ?_) <;> try (exfalso; omega))
      | (with_reducible refine WR.ne (by omega) (by omega) (fun _ => ?_) (fun _ => ?_) <;> try (exfalso; omega))
      | with_reducible refine WR.lt0 (by omega) ?_
      | with_reducible refine WR.ge0 (by omega) ?_
      | (with_reducible refine WR.bz (fun _ => ?_) (fun _ => ?_) <;> try contradiction)
      | (with_reducible refine WR.bn (fun _ => ?_) (fun _ => ?_) <;> try contradiction)
      | (with_reducible refine WR.br (fun _ => ?_) (fun _ => ?_) <;> try contradiction)
      | refine WR.gik hz rfl (by with_reducible assumption) ?_
      | refine WR.gi hz rfl ?_
      | refine WR.gr hz rfl rfl ?_
      | refine WR.addn rfl (by with_reducible rfl) (by with_reducible rfl) ?_
      | refine WR.muln rfl (by with_reducible rfl) (by with_reducible rfl) ?_
      | refine WR.subn rfl (by with_reducible rfl) (by with_reducible rfl) (by omega) ?_
      | (refine WR.incn rfl rfl ?_; dsimp only [List.set])
      | (refine WR.go rfl rfl ?_; try dsimp only [List.set])
      | refine WR.aik hz rfl rfl rfl rfl (by first | with_reducible rfl | with_reducible assumption) (by omega) (by with_reducible assumption) ?_
      | refine WR.ai hz rfl rfl rfl rfl (by first | with_reducible rfl | with_reducible assumption) (by omega) ?_
      | refine WR.si hz rfl rfl rfl rfl (by first | with_reducible rfl | with_reducible assumption) (by omega) ?_
      | refine WR.az hz rfl rfl rfl rfl (by first | with_reducible rfl | with_reducible assumption) (by omega) ?_
      | refine WR.sz hz rfl rfl rfl rfl (by first | with_reducible rfl | with_reducible assumption) (by omega) (by decide) ?_
      | refine WR.pi hz rfl ?_
      | refine WR.rt rfl rfl rfl rfl ?_
      | refine WR.rz rfl rfl (by decide) ?_)
  · rename_i h; exact ⟨rfl, by rw [if_neg (by simp [h])]⟩
  · rename_i h; exact ⟨rfl, by rw [if_pos h, f_rp_o I (by decide)]⟩
set_option maxHeartbeats 1000000 in
theorem r_look5 (d : Nat) (I : xI) {r e : Nat} (hr : r < 5) (he : I 83 r = nI e) (he2 : e ≤ 24) (hf : f_wf I) (hz : zok Z) : ER Z (d + 4) 136 I [.ref 74, .int (nI r), .int (nI 5)] (fun I' v => I' = f_rp I e ∧ v = some (.int (bI (f_camp I r && f_maj (I 88 r) (f_mem I e (e + 1)))))) := by
  refine r_lookS d I hr he he2 hf hz ?_
  refine WR.ts rfl (by decide) rfl ?_
  have h88 : f_rp I e 88 r = I 88 r := f_rp_o I (by decide) e r
  iterate 3 (first
      | (with_reducible refine WR.lt (by omega) (by omega) (fun _ => ?_) (fun _ => ?_) <;> try (exfalso; omega))
      | (with_reducible refine WR.le (by omega) (by omega) (fun _ => ?_) (fun _ => ?_) <;> try (exfalso; omega))
      | (with_reducible refine WR.eq (by omega) (by omega) (fun _ => ?_) (fun _ => ?_) <;> try (exfalso; omega))
      | (with_reducible refine WR.ne (by omega) (by omega) (fun _ => ?_) (fun _ => ?_) <;> try (exfalso; omega))
      | with_reducible refine WR.lt0 (by omega) ?_
      | with_reducible refine WR.ge0 (by omega) ?_
      | (with_reducible refine WR.bz (fun _ => ?_) (fun _ => ?_) <;> try contradiction)
      | (with_reducible refine WR.bn (fun _ => ?_) (fun _ => ?_) <;> try contradiction)
      | (with_reducible refine WR.br (fun _ => ?_) (fun _ => ?_) <;> try contradiction)
      | refine WR.gik hz rfl (by with_reducible assumption) ?_
      | refine WR.gi hz rfl ?_
      | refine WR.gr hz rfl rfl ?_
      | refine WR.addn rfl (by with_reducible rfl) (by with_reducible rfl) ?_
      | refine WR.muln rfl (by with_reducible rfl) (by with_reducible rfl) ?_
      | refine WR.subn rfl (by with_reducible rfl) (by with_reducible rfl) (by omega) ?_
      | (refine WR.incn rfl rfl ?_; dsimp only [List.set])
      | (refine WR.go rfl rfl ?_; try dsimp only [List.set])
      | refine WR.aik hz rfl rfl rfl rfl (by first | with_reducible rfl | with_reducible assumption) (by omega) (by with_reducible assumption) ?_
      | refine WR.ai hz rfl rfl rfl rfl (by first | with_reducible rfl | with_reducible assumption) (by omega) ?_
      | refine WR.si hz rfl rfl rfl rfl (by first | with_reducible rfl | with_reducible assumption) (by omega) ?_
      | refine WR.az hz rfl rfl rfl rfl (by first | with_reducible rfl | with_reducible assumption) (by omega) ?_
      | refine WR.sz hz rfl rfl rfl rfl (by first | with_reducible rfl | with_reducible assumption) (by omega) (by decide) ?_
      | refine WR.pi hz rfl ?_
      | refine WR.rt rfl rfl rfl rfl ?_
      | refine WR.rz rfl rfl (by decide) ?_)
  · rename_i h
    repeat' (first
      | (with_reducible refine WR.lt (by omega) (by omega) (fun _ => ?_) (fun _ => ?_) <;> try (exfalso; omega))
      | (with_reducible refine WR.le (by omega) (by omega) (fun _ => ?_) (fun _ => ?_) <;> try (exfalso; omega))
      | (with_reducible refine WR.eq (by omega) (by omega) (fun _ => ?_) (fun _ => ?_) <;> try (exfalso; omega))
      | (with_reducible refine WR.ne (by omega) (by omega) (fun _ => ?_) (fun _ => ?_) <;> try (exfalso; omega))
      | with_reducible refine WR.lt0 (by omega) ?_
      | with_reducible refine WR.ge0 (by omega) ?_
      | (with_reducible refine WR.bz (fun _ => ?_) (fun _ => ?_) <;> try contradiction)
      | (with_reducible refine WR.bn (fun _ => ?_) (fun _ => ?_) <;> try contradiction)
      | (with_reducible refine WR.br (fun _ => ?_) (fun _ => ?_) <;> try contradiction)
      | refine WR.gik hz rfl (by with_reducible assumption) ?_
      | refine WR.gi hz rfl ?_
      | refine WR.gr hz rfl rfl ?_
      | refine WR.addn rfl (by with_reducible rfl) (by with_reducible rfl) ?_
      | refine WR.muln rfl (by with_reducible rfl) (by with_reducible rfl) ?_
      | refine WR.subn rfl (by with_reducible rfl) (by with_reducible rfl) (by omega) ?_
      | (refine WR.incn rfl rfl ?_; dsimp only [List.set])
      | (refine WR.go rfl rfl ?_; try dsimp only [List.set])
      | refine WR.aik hz rfl rfl rfl rfl (by first | with_reducible rfl | with_reducible assumption) (by omega) (by with_reducible assumption) ?_
      | refine WR.ai hz rfl rfl rfl rfl (by first | with_reducible rfl | with_reducible assumption) (by omega) ?_
      | refine WR.si hz rfl rfl rfl rfl (by first | with_reducible rfl | with_reducible assumption) (by omega) ?_
      | refine WR.az hz rfl rfl rfl rfl (by first | with_reducible rfl | with_reducible assumption) (by omega) ?_
      | refine WR.sz hz rfl rfl rfl rfl (by first | with_reducible rfl | with_reducible assumption) (by omega) (by decide) ?_
      | refine WR.pi hz rfl ?_
      | refine WR.rt rfl rfl rfl rfl ?_
      | refine WR.rz rfl rfl (by decide) ?_)
    exact ⟨rfl, by rw [h]; rfl⟩
  · rename_i h
    repeat' ((with_reducible fail_if_success show WR _ _ _ 133 _ _ _ _); (first
      | (with_reducible refine WR.lt (by omega) (by omega) (fun _ => ?_) (fun _ => ?_) <;> try (exfalso; omega))
      | (with_reducible refine WR.le (by omega) (by omega) (fun _ => ?_) (fun _ => ?_) <;> try (exfalso; omega))
      | (with_reducible refine WR.eq (by omega) (by omega) (fun _ => ?_) (fun _ => ?_) <;> try (exfalso; omega))
      | (with_reducible refine WR.ne (by omega) (by omega) (fun _ => ?_) (fun _ => ?_) <;> try (exfalso; omega))
      | with_reducible refine WR.lt0 (by omega) ?_
      | with_reducible refine WR.ge0 (by omega) ?_
      | (with_reducible refine WR.bz (fun _ => ?_) (fun _ => ?_) <;> try contradiction)
      | (with_reducible refine WR.bn (fun _ => ?_) (fun _ => ?_) <;> try contradiction)
      | (with_reducible refine WR.br (fun _ => ?_) (fun _ => ?_) <;> try contradiction)
      | refine WR.gik hz rfl (by with_reducible assumption) ?_
      | refine WR.gi hz rfl ?_
      | refine WR.gr hz rfl rfl ?_
      | refine WR.addn rfl (by with_reducible rfl) (by with_reducible rfl) ?_
      | refine WR.muln rfl (by with_reducible rfl) (by with_reducible rfl) ?_
      | refine WR.subn rfl (by with_reducible rfl) (by with_reducible rfl) (by omega) ?_
      | (refine WR.incn rfl rfl ?_; dsimp only [List.set])
      | (refine WR.go rfl rfl ?_; try dsimp only [List.set])
      | refine WR.aik hz rfl rfl rfl rfl (by first | with_reducible rfl | with_reducible assumption) (by omega) (by with_reducible assumption) ?_
      | refine WR.ai hz rfl rfl rfl rfl (by first | with_reducible rfl | with_reducible assumption) (by omega) ?_
      | refine WR.si hz rfl rfl rfl rfl (by first | with_reducible rfl | with_reducible assumption) (by omega) ?_
      | refine WR.az hz rfl rfl rfl rfl (by first | with_reducible rfl | with_reducible assumption) (by omega) ?_
      | refine WR.sz hz rfl rfl rfl rfl (by first | with_reducible rfl | with_reducible assumption) (by omega) (by decide) ?_
      | refine WR.pi hz rfl ?_
      | refine WR.rt rfl rfl rfl rfl ?_
      | refine WR.rz rfl rfl (by decide) ?_))
    refine WR.S2i rfl rfl (r_majority (d + 1) _ _ _ hz) ?_
    repeat' (first
      | (with_reducible refine WR.lt (by omega) (by omega) (fun _ => ?_) (fun _ => ?_) <;> try (exfalso; omega))
      | (with_reducible refine WR.le (by omega) (by omega) (fun _ => ?_) (fun _ => ?_) <;> try (exfalso; omega))
      | (with_reducible refine WR.eq (by omega) (by omega) (fun _ => ?_) (fun _ => ?_) <;> try (exfalso; omega))
      | (with_reducible refine WR.ne (by omega) (by omega) (fun _ => ?_) (fun _ => ?_) <;> try (exfalso; omega))
      | with_reducible refine WR.lt0 (by omega) ?_
      | with_reducible refine WR.ge0 (by omega) ?_
      | (with_reducible refine WR.bz (fun _ => ?_) (fun _ => ?_) <;> try contradiction)
      | (with_reducible refine WR.bn (fun _ => ?_) (fun _ => ?_) <;> try contradiction)
      | (with_reducible refine WR.br (fun _ => ?_) (fun _ => ?_) <;> try contradiction)
      | refine WR.gik hz rfl (by with_reducible assumption) ?_
      | refine WR.gi hz rfl ?_
      | refine WR.gr hz rfl rfl ?_
      | refine WR.addn rfl (by with_reducible rfl) (by with_reducible rfl) ?_
      | refine WR.muln rfl (by with_reducible rfl) (by with_reducible rfl) ?_
      | refine WR.subn rfl (by with_reducible rfl) (by with_reducible rfl) (by omega) ?_
      | (refine WR.incn rfl rfl ?_; dsimp only [List.set])
      | (refine WR.go rfl rfl ?_; try dsimp only [List.set])
      | refine WR.aik hz rfl rfl rfl rfl (by first | with_reducible rfl | with_reducible assumption) (by omega) (by with_reducible assumption) ?_
      | refine WR.ai hz rfl rfl rfl rfl (by first | with_reducible rfl | with_reducible assumption) (by omega) ?_
      | refine WR.si hz rfl rfl rfl rfl (by first | with_reducible rfl | with_reducible assumption) (by omega) ?_
      | refine WR.az hz rfl rfl rfl rfl (by first | with_reducible rfl | with_reducible assumption) (by omega) ?_
      | refine WR.sz hz rfl rfl rfl rfl (by first | with_reducible rfl | with_reducible assumption) (by omega) (by decide) ?_
      | refine WR.pi hz rfl ?_
      | refine WR.rt rfl rfl rfl rfl ?_
      | refine WR.rz rfl rfl (by decide) ?_)
    · rename_i h2; exact ⟨rfl, by rw [h, h2]; rfl⟩
    · rename_i h2; exact ⟨rfl, by rw [h, h2]; rfl⟩
set_option maxHeartbeats 1000000 in
theorem r_look_d (d : Nat) (I : xI) {r e : Nat} {y : Int32} (hr : r < 5) (he : I 83 r = nI e) (he2 : e ≤ 24) (hf : f_wf I) (hy : y < 0 ∨ (8 : Int) ≤ y.toInt) (hz : zok Z) : ER Z (d + 4) 136 I [.ref 74, .int (nI r), .int y] (fun I' v => I' = f_rp I e ∧ v = some (.int (-1))) := by
  refine r_lookS d I hr he he2 hf hz ?_
  refine WR.tso rfl hy ?_
  repeat' (first
      | (with_reducible refine WR.lt (by omega) (by omega) (fun _ => ?_) (fun _ => ?_) <;> try (exfalso; omega))
      | (with_reducible refine WR.le (by omega) (by omega) (fun _ => ?_) (fun _ => ?_) <;> try (exfalso; omega))
      | (with_reducible refine WR.eq (by omega) (by omega) (fun _ => ?_) (fun _ => ?_) <;> try (exfalso; omega))
      | (with_reducible refine WR.ne (by omega) (by omega) (fun _ => ?_) (fun _ => ?_) <;> try (exfalso; omega))
      | with_reducible refine WR.lt0 (by omega) ?_
      | with_reducible refine WR.ge0 (by omega) ?_
      | (with_reducible refine WR.bz (fun _ => ?_) (fun _ => ?_) <;> try contradiction)
      | (with_reducible refine WR.bn (fun _ => ?_) (fun _ => ?_) <;> try contradiction)
      | (with_reducible refine WR.br (fun _ => ?_) (fun _ => ?_) <;> try contradiction)
      | refine WR.gik hz rfl (by with_reducible assumption) ?_
      | refine WR.gi hz rfl ?_
      | refine WR.gr hz rfl rfl ?_
      | refine WR.addn rfl (by with_reducible rfl) (by with_reducible rfl) ?_
      | refine WR.muln rfl (by with_reducible rfl) (by with_reducible rfl) ?_
      | refine WR.subn rfl (by with_reducible rfl) (by with_reducible rfl) (by omega) ?_
      | (refine WR.incn rfl rfl ?_; dsimp only [List.set])
      | (refine WR.go rfl rfl ?_; try dsimp only [List.set])
      | refine WR.aik hz rfl rfl rfl rfl (by first | with_reducible rfl | with_reducible assumption) (by omega) (by with_reducible assumption) ?_
      | refine WR.ai hz rfl rfl rfl rfl (by first | with_reducible rfl | with_reducible assumption) (by omega) ?_
      | refine WR.si hz rfl rfl rfl rfl (by first | with_reducible rfl | with_reducible assumption) (by omega) ?_
      | refine WR.az hz rfl rfl rfl rfl (by first | with_reducible rfl | with_reducible assumption) (by omega) ?_
      | refine WR.sz hz rfl rfl rfl rfl (by first | with_reducible rfl | with_reducible assumption) (by omega) (by decide) ?_
      | refine WR.pi hz rfl ?_
      | refine WR.rt rfl rfl rfl rfl ?_
      | refine WR.rz rfl rfl (by decide) ?_)
  exact ⟨rfl, rfl⟩
def f_ask (I : xI) (kd ky n : Nat) (v : Int32) : xI := x_u (x_u (x_u (x_u I 74 0 (nI (n + 1))) 75 (n + 1) (nI kd)) 76 (n + 1) (nI ky)) 77 (n + 1) v
def f_askok (kd : Nat) (v : Int32) : Prop := kd = 4 → ¬ v < 0 ∧ ¬ nI 31 < v ∧ nI 2 ≤ f_cnt v
set_option maxHeartbeats 2000000 in
theorem r_ask (d : Nat) (I : xI) {kd ky n : Nat} (v : Int32) (hk : kd ≤ 4) (hy : ky ≤ 3) (hn : I 74 0 = nI n) (hn2 : n < 40) (hv : f_askok kd v) (hz : zok Z) : ER Z (d + 2) 96 I [.ref 74, .int (nI kd), .int (nI ky), .int v] (fun I' r => I' = f_ask I kd ky n v ∧ r = some (.int (nI (n + 1)))) := by
  have fin : WR Z (d + 1) 96 54 [some (.ref 74), some (.int (nI kd)), some (.int (nI ky)), some (.int v)] [] I (fun I' r => I' = f_ask I kd ky n v ∧ r = some (.int (nI (n + 1)))) := by
    have q0 : x_u I 74 0 (nI (n + 1)) 74 0 = nI (n + 1) := x_u_eq _ _ _ _
    have q1 : x_u (x_u I 74 0 (nI (n + 1))) 75 (n + 1) (nI kd) 74 0 = nI (n + 1) := by rw [x_u_ne _ _ (by omega)]; exact q0
    have q2 : x_u (x_u (x_u I 74 0 (nI (n + 1))) 75 (n + 1) (nI kd)) 76 (n + 1) (nI ky) 74 0 = nI (n + 1) := by rw [x_u_ne _ _ (by omega)]; exact q1
    have q3 : x_u (x_u (x_u (x_u I 74 0 (nI (n + 1))) 75 (n + 1) (nI kd)) 76 (n + 1) (nI ky)) 77 (n + 1) v 74 0 = nI (n + 1) := by rw [x_u_ne _ _ (by omega)]; exact q2
    repeat' (first
      | (with_reducible refine WR.lt (by omega) (by omega) (fun _ => ?_) (fun _ => ?_) <;> try (exfalso; omega))
      | (with_reducible refine WR.le (by omega) (by omega) (fun _ => ?_) (fun _ => ?_) <;> try (exfalso; omega))
      | (with_reducible refine WR.eq (by omega) (by omega) (fun _ => ?_) (fun _ => ?_) <;> try (exfalso; omega))
      | (with_reducible refine WR.ne (by omega) (by omega) (fun _ => ?_) (fun _ => ?_) <;> try (exfalso; omega))
      | with_reducible refine WR.lt0 (by omega) ?_
      | with_reducible refine WR.ge0 (by omega) ?_
      | (with_reducible refine WR.bz (fun _ => ?_) (fun _ => ?_) <;> try contradiction)
      | (with_reducible refine WR.bn (fun _ => ?_) (fun _ => ?_) <;> try contradiction)
      | (with_reducible refine WR.br (fun _ => ?_) (fun _ => ?_) <;> try contradiction)
      | refine WR.gik hz rfl (by with_reducible assumption) ?_
      | refine WR.gi hz rfl ?_
      | refine WR.gr hz rfl rfl ?_
      | refine WR.addn rfl (by with_reducible rfl) (by with_reducible rfl) ?_
      | refine WR.muln rfl (by with_reducible rfl) (by with_reducible rfl) ?_
      | refine WR.subn rfl (by with_reducible rfl) (by with_reducible rfl) (by omega) ?_
      | (refine WR.incn rfl rfl ?_; dsimp only [List.set])
      | (refine WR.go rfl rfl ?_; try dsimp only [List.set])
      | refine WR.aik hz rfl rfl rfl rfl (by first | with_reducible rfl | with_reducible assumption) (by omega) (by with_reducible assumption) ?_
      | refine WR.ai hz rfl rfl rfl rfl (by first | with_reducible rfl | with_reducible assumption) (by omega) ?_
      | refine WR.si hz rfl rfl rfl rfl (by first | with_reducible rfl | with_reducible assumption) (by omega) ?_
      | refine WR.az hz rfl rfl rfl rfl (by first | with_reducible rfl | with_reducible assumption) (by omega) ?_
      | refine WR.sz hz rfl rfl rfl rfl (by first | with_reducible rfl | with_reducible assumption) (by omega) (by decide) ?_
      | refine WR.pi hz rfl ?_
      | refine WR.rt rfl rfl rfl rfl ?_
      | refine WR.rz rfl rfl (by decide) ?_)
    exact ⟨rfl, rfl⟩
  refine ER.of (ls := [some (.ref 74), some (.int (nI kd)), some (.int (nI ky)), some (.int v)]) rfl rfl ?_
  repeat' ((with_reducible fail_if_success show WR _ _ _ 29 _ _ _ _); (first
      | (with_reducible refine WR.lt (by omega) (by omega) (fun _ => ?_) (fun _ => ?_) <;> try (exfalso; omega))
      | (with_reducible refine WR.le (by omega) (by omega) (fun _ => ?_) (fun _ => ?_) <;> try (exfalso; omega))
      | (with_reducible refine WR.eq (by omega) (by omega) (fun _ => ?_) (fun _ => ?_) <;> try (exfalso; omega))
      | (with_reducible refine WR.ne (by omega) (by omega) (fun _ => ?_) (fun _ => ?_) <;> try (exfalso; omega))
      | with_reducible refine WR.lt0 (by omega) ?_
      | with_reducible refine WR.ge0 (by omega) ?_
      | (with_reducible refine WR.bz (fun _ => ?_) (fun _ => ?_) <;> try contradiction)
      | (with_reducible refine WR.bn (fun _ => ?_) (fun _ => ?_) <;> try contradiction)
      | (with_reducible refine WR.br (fun _ => ?_) (fun _ => ?_) <;> try contradiction)
      | refine WR.gik hz rfl (by with_reducible assumption) ?_
      | refine WR.gi hz rfl ?_
      | refine WR.gr hz rfl rfl ?_
      | refine WR.addn rfl (by with_reducible rfl) (by with_reducible rfl) ?_
      | refine WR.muln rfl (by with_reducible rfl) (by with_reducible rfl) ?_
      | refine WR.subn rfl (by with_reducible rfl) (by with_reducible rfl) (by omega) ?_
      | (refine WR.incn rfl rfl ?_; dsimp only [List.set])
      | (refine WR.go rfl rfl ?_; try dsimp only [List.set])
      | refine WR.aik hz rfl rfl rfl rfl (by first | with_reducible rfl | with_reducible assumption) (by omega) (by with_reducible assumption) ?_
      | refine WR.ai hz rfl rfl rfl rfl (by first | with_reducible rfl | with_reducible assumption) (by omega) ?_
      | refine WR.si hz rfl rfl rfl rfl (by first | with_reducible rfl | with_reducible assumption) (by omega) ?_
      | refine WR.az hz rfl rfl rfl rfl (by first | with_reducible rfl | with_reducible assumption) (by omega) ?_
      | refine WR.sz hz rfl rfl rfl rfl (by first | with_reducible rfl | with_reducible assumption) (by omega) (by decide) ?_
      | refine WR.pi hz rfl ?_
      | refine WR.rt rfl rfl rfl rfl ?_
      | refine WR.rz rfl rfl (by decide) ?_))
  iterate 4 (first
      | (with_reducible refine WR.lt (by omega) (by omega) (fun _ => ?_) (fun _ => ?_) <;> try (exfalso; omega))
      | (with_reducible refine WR.le (by omega) (by omega) (fun _ => ?_) (fun _ => ?_) <;> try (exfalso; omega))
      | (with_reducible refine WR.eq (by omega) (by omega) (fun _ => ?_) (fun _ => ?_) <;> try (exfalso; omega))
      | (with_reducible refine WR.ne (by omega) (by omega) (fun _ => ?_) (fun _ => ?_) <;> try (exfalso; omega))
      | with_reducible refine WR.lt0 (by omega) ?_
      | with_reducible refine WR.ge0 (by omega) ?_
      | (with_reducible refine WR.bz (fun _ => ?_) (fun _ => ?_) <;> try contradiction)
      | (with_reducible refine WR.bn (fun _ => ?_) (fun _ => ?_) <;> try contradiction)
      | (with_reducible refine WR.br (fun _ => ?_) (fun _ => ?_) <;> try contradiction)
      | refine WR.gik hz rfl (by with_reducible assumption) ?_
      | refine WR.gi hz rfl ?_
      | refine WR.gr hz rfl rfl ?_
      | refine WR.addn rfl (by with_reducible rfl) (by with_reducible rfl) ?_
      | refine WR.muln rfl (by with_reducible rfl) (by with_reducible rfl) ?_
      | refine WR.subn rfl (by with_reducible rfl) (by with_reducible rfl) (by omega) ?_
      | (refine WR.incn rfl rfl ?_; dsimp only [List.set])
      | (refine WR.go rfl rfl ?_; try dsimp only [List.set])
      | refine WR.aik hz rfl rfl rfl rfl (by first | with_reducible rfl | with_reducible assumption) (by omega) (by with_reducible assumption) ?_
      | refine WR.ai hz rfl rfl rfl rfl (by first | with_reducible rfl | with_reducible assumption) (by omega) ?_
      | refine WR.si hz rfl rfl rfl rfl (by first | with_reducible rfl | with_reducible assumption) (by omega) ?_
      | refine WR.az hz rfl rfl rfl rfl (by first | with_reducible rfl | with_reducible assumption) (by omega) ?_
      | refine WR.sz hz rfl rfl rfl rfl (by first | with_reducible rfl | with_reducible assumption) (by omega) (by decide) ?_
      | refine WR.pi hz rfl ?_
      | refine WR.rt rfl rfl rfl rfl ?_
      | refine WR.rz rfl rfl (by decide) ?_)
  · exact fin
  · rename_i h
    obtain ⟨v1, v2, v3⟩ := hv h
    repeat' ((with_reducible fail_if_success show WR _ _ _ 45 _ _ _ _); (first
      | (with_reducible refine WR.lt (by omega) (by omega) (fun _ => ?_) (fun _ => ?_) <;> try (exfalso; omega))
      | (with_reducible refine WR.le (by omega) (by omega) (fun _ => ?_) (fun _ => ?_) <;> try (exfalso; omega))
      | (with_reducible refine WR.eq (by omega) (by omega) (fun _ => ?_) (fun _ => ?_) <;> try (exfalso; omega))
      | (with_reducible refine WR.ne (by omega) (by omega) (fun _ => ?_) (fun _ => ?_) <;> try (exfalso; omega))
      | with_reducible refine WR.lt0 (by omega) ?_
      | with_reducible refine WR.ge0 (by omega) ?_
      | (with_reducible refine WR.bz (fun _ => ?_) (fun _ => ?_) <;> try contradiction)
      | (with_reducible refine WR.bn (fun _ => ?_) (fun _ => ?_) <;> try contradiction)
      | (with_reducible refine WR.br (fun _ => ?_) (fun _ => ?_) <;> try contradiction)
      | refine WR.gik hz rfl (by with_reducible assumption) ?_
      | refine WR.gi hz rfl ?_
      | refine WR.gr hz rfl rfl ?_
      | refine WR.addn rfl (by with_reducible rfl) (by with_reducible rfl) ?_
      | refine WR.muln rfl (by with_reducible rfl) (by with_reducible rfl) ?_
      | refine WR.subn rfl (by with_reducible rfl) (by with_reducible rfl) (by omega) ?_
      | (refine WR.incn rfl rfl ?_; dsimp only [List.set])
      | (refine WR.go rfl rfl ?_; try dsimp only [List.set])
      | refine WR.aik hz rfl rfl rfl rfl (by first | with_reducible rfl | with_reducible assumption) (by omega) (by with_reducible assumption) ?_
      | refine WR.ai hz rfl rfl rfl rfl (by first | with_reducible rfl | with_reducible assumption) (by omega) ?_
      | refine WR.si hz rfl rfl rfl rfl (by first | with_reducible rfl | with_reducible assumption) (by omega) ?_
      | refine WR.az hz rfl rfl rfl rfl (by first | with_reducible rfl | with_reducible assumption) (by omega) ?_
      | refine WR.sz hz rfl rfl rfl rfl (by first | with_reducible rfl | with_reducible assumption) (by omega) (by decide) ?_
      | refine WR.pi hz rfl ?_
      | refine WR.rt rfl rfl rfl rfl ?_
      | refine WR.rz rfl rfl (by decide) ?_))
    refine WR.S1i rfl rfl (r_count d I v hz) ?_
    iterate 3 (first
      | (with_reducible refine WR.lt (by omega) (by omega) (fun _ => ?_) (fun _ => ?_) <;> try (exfalso; omega))
      | (with_reducible refine WR.le (by omega) (by omega) (fun _ => ?_) (fun _ => ?_) <;> try (exfalso; omega))
      | (with_reducible refine WR.eq (by omega) (by omega) (fun _ => ?_) (fun _ => ?_) <;> try (exfalso; omega))
      | (with_reducible refine WR.ne (by omega) (by omega) (fun _ => ?_) (fun _ => ?_) <;> try (exfalso; omega))
      | with_reducible refine WR.lt0 (by omega) ?_
      | with_reducible refine WR.ge0 (by omega) ?_
      | (with_reducible refine WR.bz (fun _ => ?_) (fun _ => ?_) <;> try contradiction)
      | (with_reducible refine WR.bn (fun _ => ?_) (fun _ => ?_) <;> try contradiction)
      | (with_reducible refine WR.br (fun _ => ?_) (fun _ => ?_) <;> try contradiction)
      | refine WR.gik hz rfl (by with_reducible assumption) ?_
      | refine WR.gi hz rfl ?_
      | refine WR.gr hz rfl rfl ?_
      | refine WR.addn rfl (by with_reducible rfl) (by with_reducible rfl) ?_
      | refine WR.muln rfl (by with_reducible rfl) (by with_reducible rfl) ?_
      | refine WR.subn rfl (by with_reducible rfl) (by with_reducible rfl) (by omega) ?_
      | (refine WR.incn rfl rfl ?_; dsimp only [List.set])
      | (refine WR.go rfl rfl ?_; try dsimp only [List.set])
      | refine WR.aik hz rfl rfl rfl rfl (by first | with_reducible rfl | with_reducible assumption) (by omega) (by with_reducible assumption) ?_
      | refine WR.ai hz rfl rfl rfl rfl (by first | with_reducible rfl | with_reducible assumption) (by omega) ?_
      | refine WR.si hz rfl rfl rfl rfl (by first | with_reducible rfl | with_reducible assumption) (by omega) ?_
      | refine WR.az hz rfl rfl rfl rfl (by first | with_reducible rfl | with_reducible assumption) (by omega) ?_
      | refine WR.sz hz rfl rfl rfl rfl (by first | with_reducible rfl | with_reducible assumption) (by omega) (by decide) ?_
      | refine WR.pi hz rfl ?_
      | refine WR.rt rfl rfl rfl rfl ?_
      | refine WR.rz rfl rfl (by decide) ?_)
    exact fin
set_option maxHeartbeats 2000000 in
theorem r_ask_n (d : Nat) (I : xI) {x y v : Int32} {n : Nat} (hn : I 74 0 = nI n) (hn2 : n ≤ 40) (hb : x < 0 ∨ nI 4 < x ∨ y < 0 ∨ nI 3 < y ∨ n = 40 ∨ (x = nI 4 ∧ (v < 0 ∨ nI 31 < v ∨ f_cnt v < nI 2))) (hz : zok Z) : ER Z (d + 2) 96 I [.ref 74, .int x, .int y, .int v] (fun I' r => I' = I ∧ r = some (.int (-1))) := by
  refine ER.of (ls := [some (.ref 74), some (.int x), some (.int y), some (.int v)]) rfl rfl ?_
  iterate 3 (first
      | (with_reducible refine WR.lt (by omega) (by omega) (fun _ => ?_) (fun _ => ?_) <;> try (exfalso; omega))
      | (with_reducible refine WR.le (by omega) (by omega) (fun _ => ?_) (fun _ => ?_) <;> try (exfalso; omega))
      | (with_reducible refine WR.eq (by omega) (by omega) (fun _ => ?_) (fun _ => ?_) <;> try (exfalso; omega))
      | (with_reducible refine WR.ne (by omega) (by omega) (fun _ => ?_) (fun _ => ?_) <;> try (exfalso; omega))
      | with_reducible refine WR.lt0 (by omega) ?_
      | with_reducible refine WR.ge0 (by omega) ?_
      | (with_reducible refine WR.bz (fun _ => ?_) (fun _ => ?_) <;> try contradiction)
      | (with_reducible refine WR.bn (fun _ => ?_) (fun _ => ?_) <;> try contradiction)
      | (with_reducible refine WR.br (fun _ => ?_) (fun _ => ?_) <;> try contradiction)
      | refine WR.gik hz rfl (by with_reducible assumption) ?_
      | refine WR.gi hz rfl ?_
      | refine WR.gr hz rfl rfl ?_
      | refine WR.addn rfl (by with_reducible rfl) (by with_reducible rfl) ?_
      | refine WR.muln rfl (by with_reducible rfl) (by with_reducible rfl) ?_
      | refine WR.subn rfl (by with_reducible rfl) (by with_reducible rfl) (by omega) ?_
      | (refine WR.incn rfl rfl ?_; dsimp only [List.set])
      | (refine WR.go rfl rfl ?_; try dsimp only [List.set])
      | refine WR.aik hz rfl rfl rfl rfl (by first | with_reducible rfl | with_reducible assumption) (by omega) (by with_reducible assumption) ?_
      | refine WR.ai hz rfl rfl rfl rfl (by first | with_reducible rfl | with_reducible assumption) (by omega) ?_
      | refine WR.si hz rfl rfl rfl rfl (by first | with_reducible rfl | with_reducible assumption) (by omega) ?_
      | refine WR.az hz rfl rfl rfl rfl (by first | with_reducible rfl | with_reducible assumption) (by omega) ?_
      | refine WR.sz hz rfl rfl rfl rfl (by first | with_reducible rfl | with_reducible assumption) (by omega) (by decide) ?_
      | refine WR.pi hz rfl ?_
      | refine WR.rt rfl rfl rfl rfl ?_
      | refine WR.rz rfl rfl (by decide) ?_)
  · repeat' (first
      | (with_reducible refine WR.lt (by omega) (by omega) (fun _ => ?_) (fun _ => ?_) <;> try (exfalso; omega))
      | (with_reducible refine WR.le (by omega) (by omega) (fun _ => ?_) (fun _ => ?_) <;> try (exfalso; omega))
      | (with_reducible refine WR.eq (by omega) (by omega) (fun _ => ?_) (fun _ => ?_) <;> try (exfalso; omega))
      | (with_reducible refine WR.ne (by omega) (by omega) (fun _ => ?_) (fun _ => ?_) <;> try (exfalso; omega))
      | with_reducible refine WR.lt0 (by omega) ?_
      | with_reducible refine WR.ge0 (by omega) ?_
      | (with_reducible refine WR.bz (fun _ => ?_) (fun _ => ?_) <;> try contradiction)
      | (with_reducible refine WR.bn (fun _ => ?_) (fun _ => ?_) <;> try contradiction)
      | (with_reducible refine WR.br (fun _ => ?_) (fun _ => ?_) <;> try contradiction)
      | refine WR.gik hz rfl (by with_reducible assumption) ?_
      | refine WR.gi hz rfl ?_
      | refine WR.gr hz rfl rfl ?_
      | refine WR.addn rfl (by with_reducible rfl) (by with_reducible rfl) ?_
      | refine WR.muln rfl (by with_reducible rfl) (by with_reducible rfl) ?_
      | refine WR.subn rfl (by with_reducible rfl) (by with_reducible rfl) (by omega) ?_
      | (refine WR.incn rfl rfl ?_; dsimp only [List.set])
      | (refine WR.go rfl rfl ?_; try dsimp only [List.set])
      | refine WR.aik hz rfl rfl rfl rfl (by first | with_reducible rfl | with_reducible assumption) (by omega) (by with_reducible assumption) ?_
      | refine WR.ai hz rfl rfl rfl rfl (by first | with_reducible rfl | with_reducible assumption) (by omega) ?_
      | refine WR.si hz rfl rfl rfl rfl (by first | with_reducible rfl | with_reducible assumption) (by omega) ?_
      | refine WR.az hz rfl rfl rfl rfl (by first | with_reducible rfl | with_reducible assumption) (by omega) ?_
      | refine WR.sz hz rfl rfl rfl rfl (by first | with_reducible rfl | with_reducible assumption) (by omega) (by decide) ?_
      | refine WR.pi hz rfl ?_
      | refine WR.rt rfl rfl rfl rfl ?_
      | refine WR.rz rfl rfl (by decide) ?_)
    exact ⟨rfl, rfl⟩
  rename_i h1
  replace hb := hb.resolve_left h1
  iterate 4 (first
      | (with_reducible refine WR.lt (by omega) (by omega) (fun _ => ?_) (fun _ => ?_) <;> try (exfalso; omega))
      | (with_reducible refine WR.le (by omega) (by omega) (fun _ => ?_) (fun _ => ?_) <;> try (exfalso; omega))
      | (with_reducible refine WR.eq (by omega) (by omega) (fun _ => ?_) (fun _ => ?_) <;> try (exfalso; omega))
      | (with_reducible refine WR.ne (by omega) (by omega) (fun _ => ?_) (fun _ => ?_) <;> try (exfalso; omega))
      | with_reducible refine WR.lt0 (by omega) ?_
      | with_reducible refine WR.ge0 (by omega) ?_
      | (with_reducible refine WR.bz (fun _ => ?_) (fun _ => ?_) <;> try contradiction)
      | (with_reducible refine WR.bn (fun _ => ?_) (fun _ => ?_) <;> try contradiction)
      | (with_reducible refine WR.br (fun _ => ?_) (fun _ => ?_) <;> try contradiction)
      | refine WR.gik hz rfl (by with_reducible assumption) ?_
      | refine WR.gi hz rfl ?_
      | refine WR.gr hz rfl rfl ?_
      | refine WR.addn rfl (by with_reducible rfl) (by with_reducible rfl) ?_
      | refine WR.muln rfl (by with_reducible rfl) (by with_reducible rfl) ?_
      | refine WR.subn rfl (by with_reducible rfl) (by with_reducible rfl) (by omega) ?_
      | (refine WR.incn rfl rfl ?_; dsimp only [List.set])
      | (refine WR.go rfl rfl ?_; try dsimp only [List.set])
      | refine WR.aik hz rfl rfl rfl rfl (by first | with_reducible rfl | with_reducible assumption) (by omega) (by with_reducible assumption) ?_
      | refine WR.ai hz rfl rfl rfl rfl (by first | with_reducible rfl | with_reducible assumption) (by omega) ?_
      | refine WR.si hz rfl rfl rfl rfl (by first | with_reducible rfl | with_reducible assumption) (by omega) ?_
      | refine WR.az hz rfl rfl rfl rfl (by first | with_reducible rfl | with_reducible assumption) (by omega) ?_
      | refine WR.sz hz rfl rfl rfl rfl (by first | with_reducible rfl | with_reducible assumption) (by omega) (by decide) ?_
      | refine WR.pi hz rfl ?_
      | refine WR.rt rfl rfl rfl rfl ?_
      | refine WR.rz rfl rfl (by decide) ?_)
  · repeat' (first
      | (with_reducible refine WR.lt (by omega) (by omega) (fun _ => ?_) (fun _ => ?_) <;> try (exfalso; omega))
      | (with_reducible refine WR.le (by omega) (by omega) (fun _ => ?_) (fun _ => ?_) <;> try (exfalso; omega))
      | (with_reducible refine WR.eq (by omega) (by omega) (fun _ => ?_) (fun _ => ?_) <;> try (exfalso; omega))
      | (with_reducible refine WR.ne (by omega) (by omega) (fun _ => ?_) (fun _ => ?_) <;> try (exfalso; omega))
      | with_reducible refine WR.lt0 (by omega) ?_
      | with_reducible refine WR.ge0 (by omega) ?_
      | (with_reducible refine WR.bz (fun _ => ?_) (fun _ => ?_) <;> try contradiction)
      | (with_reducible refine WR.bn (fun _ => ?_) (fun _ => ?_) <;> try contradiction)
      | (with_reducible refine WR.br (fun _ => ?_) (fun _ => ?_) <;> try contradiction)
      | refine WR.gik hz rfl (by with_reducible assumption) ?_
      | refine WR.gi hz rfl ?_
      | refine WR.gr hz rfl rfl ?_
      | refine WR.addn rfl (by with_reducible rfl) (by with_reducible rfl) ?_
      | refine WR.muln rfl (by with_reducible rfl) (by with_reducible rfl) ?_
      | refine WR.subn rfl (by with_reducible rfl) (by with_reducible rfl) (by omega) ?_
      | (refine WR.incn rfl rfl ?_; dsimp only [List.set])
      | (refine WR.go rfl rfl ?_; try dsimp only [List.set])
      | refine WR.aik hz rfl rfl rfl rfl (by first | with_reducible rfl | with_reducible assumption) (by omega) (by with_reducible assumption) ?_
      | refine WR.ai hz rfl rfl rfl rfl (by first | with_reducible rfl | with_reducible assumption) (by omega) ?_
      | refine WR.si hz rfl rfl rfl rfl (by first | with_reducible rfl | with_reducible assumption) (by omega) ?_
      | refine WR.az hz rfl rfl rfl rfl (by first | with_reducible rfl | with_reducible assumption) (by omega) ?_
      | refine WR.sz hz rfl rfl rfl rfl (by first | with_reducible rfl | with_reducible assumption) (by omega) (by decide) ?_
      | refine WR.pi hz rfl ?_
      | refine WR.rt rfl rfl rfl rfl ?_
      | refine WR.rz rfl rfl (by decide) ?_)
    exact ⟨rfl, rfl⟩
  rename_i h2
  replace hb := hb.resolve_left h2
  iterate 3 (first
      | (with_reducible refine WR.lt (by omega) (by omega) (fun _ => ?_) (fun _ => ?_) <;> try (exfalso; omega))
      | (with_reducible refine WR.le (by omega) (by omega) (fun _ => ?_) (fun _ => ?_) <;> try (exfalso; omega))
      | (with_reducible refine WR.eq (by omega) (by omega) (fun _ => ?_) (fun _ => ?_) <;> try (exfalso; omega))
      | (with_reducible refine WR.ne (by omega) (by omega) (fun _ => ?_) (fun _ => ?_) <;> try (exfalso; omega))
      | with_reducible refine WR.lt0 (by omega) ?_
      | with_reducible refine WR.ge0 (by omega) ?_
      | (with_reducible refine WR.bz (fun _ => ?_) (fun _ => ?_) <;> try contradiction)
      | (with_reducible refine WR.bn (fun _ => ?_) (fun _ => ?_) <;> try contradiction)
      | (with_reducible refine WR.br (fun _ => ?_) (fun _ => ?_) <;> try contradiction)
      | refine WR.gik hz rfl (by with_reducible assumption) ?_
      | refine WR.gi hz rfl ?_
      | refine WR.gr hz rfl rfl ?_
      | refine WR.addn rfl (by with_reducible rfl) (by with_reducible rfl) ?_
      | refine WR.muln rfl (by with_reducible rfl) (by with_reducible rfl) ?_
      | refine WR.subn rfl (by with_reducible rfl) (by with_reducible rfl) (by omega) ?_
      | (refine WR.incn rfl rfl ?_; dsimp only [List.set])
      | (refine WR.go rfl rfl ?_; try dsimp only [List.set])
      | refine WR.aik hz rfl rfl rfl rfl (by first | with_reducible rfl | with_reducible assumption) (by omega) (by with_reducible assumption) ?_
      | refine WR.ai hz rfl rfl rfl rfl (by first | with_reducible rfl | with_reducible assumption) (by omega) ?_
      | refine WR.si hz rfl rfl rfl rfl (by first | with_reducible rfl | with_reducible assumption) (by omega) ?_
      | refine WR.az hz rfl rfl rfl rfl (by first | with_reducible rfl | with_reducible assumption) (by omega) ?_
      | refine WR.sz hz rfl rfl rfl rfl (by first | with_reducible rfl | with_reducible assumption) (by omega) (by decide) ?_
      | refine WR.pi hz rfl ?_
      | refine WR.rt rfl rfl rfl rfl ?_
      | refine WR.rz rfl rfl (by decide) ?_)
  · repeat' (first
      | (with_reducible refine WR.lt (by omega) (by omega) (fun _ => ?_) (fun _ => ?_) <;> try (exfalso; omega))
      | (with_reducible refine WR.le (by omega) (by omega) (fun _ => ?_) (fun _ => ?_) <;> try (exfalso; omega))
      | (with_reducible refine WR.eq (by omega) (by omega) (fun _ => ?_) (fun _ => ?_) <;> try (exfalso; omega))
      | (with_reducible refine WR.ne (by omega) (by omega) (fun _ => ?_) (fun _ => ?_) <;> try (exfalso; omega))
      | with_reducible refine WR.lt0 (by omega) ?_
      | with_reducible refine WR.ge0 (by omega) ?_
      | (with_reducible refine WR.bz (fun _ => ?_) (fun _ => ?_) <;> try contradiction)
      | (with_reducible refine WR.bn (fun _ => ?_) (fun _ => ?_) <;> try contradiction)
      | (with_reducible refine WR.br (fun _ => ?_) (fun _ => ?_) <;> try contradiction)
      | refine WR.gik hz rfl (by with_reducible assumption) ?_
      | refine WR.gi hz rfl ?_
      | refine WR.gr hz rfl rfl ?_
      | refine WR.addn rfl (by with_reducible rfl) (by with_reducible rfl) ?_
      | refine WR.muln rfl (by with_reducible rfl) (by with_reducible rfl) ?_
      | refine WR.subn rfl (by with_reducible rfl) (by with_reducible rfl) (by omega) ?_
      | (refine WR.incn rfl rfl ?_; dsimp only [List.set])
      | (refine WR.go rfl rfl ?_; try dsimp only [List.set])
      | refine WR.aik hz rfl rfl rfl rfl (by first | with_reducible rfl | with_reducible assumption) (by omega) (by with_reducible assumption) ?_
      | refine WR.ai hz rfl rfl rfl rfl (by first | with_reducible rfl | with_reducible assumption) (by omega) ?_
      | refine WR.si hz rfl rfl rfl rfl (by first | with_reducible rfl | with_reducible assumption) (by omega) ?_
      | refine WR.az hz rfl rfl rfl rfl (by first | with_reducible rfl | with_reducible assumption) (by omega) ?_
      | refine WR.sz hz rfl rfl rfl rfl (by first | with_reducible rfl | with_reducible assumption) (by omega) (by decide) ?_
      | refine WR.pi hz rfl ?_
      | refine WR.rt rfl rfl rfl rfl ?_
      | refine WR.rz rfl rfl (by decide) ?_)
    exact ⟨rfl, rfl⟩
  rename_i h3
  replace hb := hb.resolve_left h3
  iterate 4 (first
      | (with_reducible refine WR.lt (by omega) (by omega) (fun _ => ?_) (fun _ => ?_) <;> try (exfalso; omega))
      | (with_reducible refine WR.le (by omega) (by omega) (fun _ => ?_) (fun _ => ?_) <;> try (exfalso; omega))
      | (with_reducible refine WR.eq (by omega) (by omega) (fun _ => ?_) (fun _ => ?_) <;> try (exfalso; omega))
      | (with_reducible refine WR.ne (by omega) (by omega) (fun _ => ?_) (fun _ => ?_) <;> try (exfalso; omega))
      | with_reducible refine WR.lt0 (by omega) ?_
      | with_reducible refine WR.ge0 (by omega) ?_
      | (with_reducible refine WR.bz (fun _ => ?_) (fun _ => ?_) <;> try contradiction)
      | (with_reducible refine WR.bn (fun _ => ?_) (fun _ => ?_) <;> try contradiction)
      | (with_reducible refine WR.br (fun _ => ?_) (fun _ => ?_) <;> try contradiction)
      | refine WR.gik hz rfl (by with_reducible assumption) ?_
      | refine WR.gi hz rfl ?_
      | refine WR.gr hz rfl rfl ?_
      | refine WR.addn rfl (by with_reducible rfl) (by with_reducible rfl) ?_
      | refine WR.muln rfl (by with_reducible rfl) (by with_reducible rfl) ?_
      | refine WR.subn rfl (by with_reducible rfl) (by with_reducible rfl) (by omega) ?_
      | (refine WR.incn rfl rfl ?_; dsimp only [List.set])
      | (refine WR.go rfl rfl ?_; try dsimp only [List.set])
      | refine WR.aik hz rfl rfl rfl rfl (by first | with_reducible rfl | with_reducible assumption) (by omega) (by with_reducible assumption) ?_
      | refine WR.ai hz rfl rfl rfl rfl (by first | with_reducible rfl | with_reducible assumption) (by omega) ?_
      | refine WR.si hz rfl rfl rfl rfl (by first | with_reducible rfl | with_reducible assumption) (by omega) ?_
      | refine WR.az hz rfl rfl rfl rfl (by first | with_reducible rfl | with_reducible assumption) (by omega) ?_
      | refine WR.sz hz rfl rfl rfl rfl (by first | with_reducible rfl | with_reducible assumption) (by omega) (by decide) ?_
      | refine WR.pi hz rfl ?_
      | refine WR.rt rfl rfl rfl rfl ?_
      | refine WR.rz rfl rfl (by decide) ?_)
  · repeat' (first
      | (with_reducible refine WR.lt (by omega) (by omega) (fun _ => ?_) (fun _ => ?_) <;> try (exfalso; omega))
      | (with_reducible refine WR.le (by omega) (by omega) (fun _ => ?_) (fun _ => ?_) <;> try (exfalso; omega))
      | (with_reducible refine WR.eq (by omega) (by omega) (fun _ => ?_) (fun _ => ?_) <;> try (exfalso; omega))
      | (with_reducible refine WR.ne (by omega) (by omega) (fun _ => ?_) (fun _ => ?_) <;> try (exfalso; omega))
      | with_reducible refine WR.lt0 (by omega) ?_
      | with_reducible refine WR.ge0 (by omega) ?_
      | (with_reducible refine WR.bz (fun _ => ?_) (fun _ => ?_) <;> try contradiction)
      | (with_reducible refine WR.bn (fun _ => ?_) (fun _ => ?_) <;> try contradiction)
      | (with_reducible refine WR.br (fun _ => ?_) (fun _ => ?_) <;> try contradiction)
      | refine WR.gik hz rfl (by with_reducible assumption) ?_
      | refine WR.gi hz rfl ?_
      | refine WR.gr hz rfl rfl ?_
      | refine WR.addn rfl (by with_reducible rfl) (by with_reducible rfl) ?_
      | refine WR.muln rfl (by with_reducible rfl) (by with_reducible rfl) ?_
      | refine WR.subn rfl (by with_reducible rfl) (by with_reducible rfl) (by omega) ?_
      | (refine WR.incn rfl rfl ?_; dsimp only [List.set])
      | (refine WR.go rfl rfl ?_; try dsimp only [List.set])
      | refine WR.aik hz rfl rfl rfl rfl (by first | with_reducible rfl | with_reducible assumption) (by omega) (by with_reducible assumption) ?_
      | refine WR.ai hz rfl rfl rfl rfl (by first | with_reducible rfl | with_reducible assumption) (by omega) ?_
      | refine WR.si hz rfl rfl rfl rfl (by first | with_reducible rfl | with_reducible assumption) (by omega) ?_
      | refine WR.az hz rfl rfl rfl rfl (by first | with_reducible rfl | with_reducible assumption) (by omega) ?_
      | refine WR.sz hz rfl rfl rfl rfl (by first | with_reducible rfl | with_reducible assumption) (by omega) (by decide) ?_
      | refine WR.pi hz rfl ?_
      | refine WR.rt rfl rfl rfl rfl ?_
      | refine WR.rz rfl rfl (by decide) ?_)
    exact ⟨rfl, rfl⟩
  rename_i h4
  replace hb := hb.resolve_left h4
  iterate 5 (first
      | (with_reducible refine WR.lt (by omega) (by omega) (fun _ => ?_) (fun _ => ?_) <;> try (exfalso; omega))
      | (with_reducible refine WR.le (by omega) (by omega) (fun _ => ?_) (fun _ => ?_) <;> try (exfalso; omega))
      | (with_reducible refine WR.eq (by omega) (by omega) (fun _ => ?_) (fun _ => ?_) <;> try (exfalso; omega))
      | (with_reducible refine WR.ne (by omega) (by omega) (fun _ => ?_) (fun _ => ?_) <;> try (exfalso; omega))
      | with_reducible refine WR.lt0 (by omega) ?_
      | with_reducible refine WR.ge0 (by omega) ?_
      | (with_reducible refine WR.bz (fun _ => ?_) (fun _ => ?_) <;> try contradiction)
      | (with_reducible refine WR.bn (fun _ => ?_) (fun _ => ?_) <;> try contradiction)
      | (with_reducible refine WR.br (fun _ => ?_) (fun _ => ?_) <;> try contradiction)
      | refine WR.gik hz rfl (by with_reducible assumption) ?_
      | refine WR.gi hz rfl ?_
      | refine WR.gr hz rfl rfl ?_
      | refine WR.addn rfl (by with_reducible rfl) (by with_reducible rfl) ?_
      | refine WR.muln rfl (by with_reducible rfl) (by with_reducible rfl) ?_
      | refine WR.subn rfl (by with_reducible rfl) (by with_reducible rfl) (by omega) ?_
      | (refine WR.incn rfl rfl ?_; dsimp only [List.set])
      | (refine WR.go rfl rfl ?_; try dsimp only [List.set])
      | refine WR.aik hz rfl rfl rfl rfl (by first | with_reducible rfl | with_reducible assumption) (by omega) (by with_reducible assumption) ?_
      | refine WR.ai hz rfl rfl rfl rfl (by first | with_reducible rfl | with_reducible assumption) (by omega) ?_
      | refine WR.si hz rfl rfl rfl rfl (by first | with_reducible rfl | with_reducible assumption) (by omega) ?_
      | refine WR.az hz rfl rfl rfl rfl (by first | with_reducible rfl | with_reducible assumption) (by omega) ?_
      | refine WR.sz hz rfl rfl rfl rfl (by first | with_reducible rfl | with_reducible assumption) (by omega) (by decide) ?_
      | refine WR.pi hz rfl ?_
      | refine WR.rt rfl rfl rfl rfl ?_
      | refine WR.rz rfl rfl (by decide) ?_)
  · rename_i h5
    obtain ⟨hx, hv⟩ := hb.resolve_left h5
    iterate 4 (first
      | (with_reducible refine WR.lt (by omega) (by omega) (fun _ => ?_) (fun _ => ?_) <;> try (exfalso; omega))
      | (with_reducible refine WR.le (by omega) (by omega) (fun _ => ?_) (fun _ => ?_) <;> try (exfalso; omega))
      | (with_reducible refine WR.eq (by omega) (by omega) (fun _ => ?_) (fun _ => ?_) <;> try (exfalso; omega))
      | (with_reducible refine WR.ne (by omega) (by omega) (fun _ => ?_) (fun _ => ?_) <;> try (exfalso; omega))
      | with_reducible refine WR.lt0 (by omega) ?_
      | with_reducible refine WR.ge0 (by omega) ?_
      | (with_reducible refine WR.bz (fun _ => ?_) (fun _ => ?_) <;> try contradiction)
      | (with_reducible refine WR.bn (fun _ => ?_) (fun _ => ?_) <;> try contradiction)
      | (with_reducible refine WR.br (fun _ => ?_) (fun _ => ?_) <;> try contradiction)
      | refine WR.gik hz rfl (by with_reducible assumption) ?_
      | refine WR.gi hz rfl ?_
      | refine WR.gr hz rfl rfl ?_
      | refine WR.addn rfl (by with_reducible rfl) (by with_reducible rfl) ?_
      | refine WR.muln rfl (by with_reducible rfl) (by with_reducible rfl) ?_
      | refine WR.subn rfl (by with_reducible rfl) (by with_reducible rfl) (by omega) ?_
      | (refine WR.incn rfl rfl ?_; dsimp only [List.set])
      | (refine WR.go rfl rfl ?_; try dsimp only [List.set])
      | refine WR.aik hz rfl rfl rfl rfl (by first | with_reducible rfl | with_reducible assumption) (by omega) (by with_reducible assumption) ?_
      | refine WR.ai hz rfl rfl rfl rfl (by first | with_reducible rfl | with_reducible assumption) (by omega) ?_
      | refine WR.si hz rfl rfl rfl rfl (by first | with_reducible rfl | with_reducible assumption) (by omega) ?_
      | refine WR.az hz rfl rfl rfl rfl (by first | with_reducible rfl | with_reducible assumption) (by omega) ?_
      | refine WR.sz hz rfl rfl rfl rfl (by first | with_reducible rfl | with_reducible assumption) (by omega) (by decide) ?_
      | refine WR.pi hz rfl ?_
      | refine WR.rt rfl rfl rfl rfl ?_
      | refine WR.rz rfl rfl (by decide) ?_)
    rename_i h6
    iterate 3 (first
      | (with_reducible refine WR.lt (by omega) (by omega) (fun _ => ?_) (fun _ => ?_) <;> try (exfalso; omega))
      | (with_reducible refine WR.le (by omega) (by omega) (fun _ => ?_) (fun _ => ?_) <;> try (exfalso; omega))
      | (with_reducible refine WR.eq (by omega) (by omega) (fun _ => ?_) (fun _ => ?_) <;> try (exfalso; omega))
      | (with_reducible refine WR.ne (by omega) (by omega) (fun _ => ?_) (fun _ => ?_) <;> try (exfalso; omega))
      | with_reducible refine WR.lt0 (by omega) ?_
      | with_reducible refine WR.ge0 (by omega) ?_
      | (with_reducible refine WR.bz (fun _ => ?_) (fun _ => ?_) <;> try contradiction)
      | (with_reducible refine WR.bn (fun _ => ?_) (fun _ => ?_) <;> try contradiction)
      | (with_reducible refine WR.br (fun _ => ?_) (fun _ => ?_) <;> try contradiction)
      | refine WR.gik hz rfl (by with_reducible assumption) ?_
      | refine WR.gi hz rfl ?_
      | refine WR.gr hz rfl rfl ?_
      | refine WR.addn rfl (by with_reducible rfl) (by with_reducible rfl) ?_
      | refine WR.muln rfl (by with_reducible rfl) (by with_reducible rfl) ?_
      | refine WR.subn rfl (by with_reducible rfl) (by with_reducible rfl) (by omega) ?_
      | (refine WR.incn rfl rfl ?_; dsimp only [List.set])
      | (refine WR.go rfl rfl ?_; try dsimp only [List.set])
      | refine WR.aik hz rfl rfl rfl rfl (by first | with_reducible rfl | with_reducible assumption) (by omega) (by with_reducible assumption) ?_
      | refine WR.ai hz rfl rfl rfl rfl (by first | with_reducible rfl | with_reducible assumption) (by omega) ?_
      | refine WR.si hz rfl rfl rfl rfl (by first | with_reducible rfl | with_reducible assumption) (by omega) ?_
      | refine WR.az hz rfl rfl rfl rfl (by first | with_reducible rfl | with_reducible assumption) (by omega) ?_
      | refine WR.sz hz rfl rfl rfl rfl (by first | with_reducible rfl | with_reducible assumption) (by omega) (by decide) ?_
      | refine WR.pi hz rfl ?_
      | refine WR.rt rfl rfl rfl rfl ?_
      | refine WR.rz rfl rfl (by decide) ?_)
    · repeat' (first
      | (with_reducible refine WR.lt (by omega) (by omega) (fun _ => ?_) (fun _ => ?_) <;> try (exfalso; omega))
      | (with_reducible refine WR.le (by omega) (by omega) (fun _ => ?_) (fun _ => ?_) <;> try (exfalso; omega))
      | (with_reducible refine WR.eq (by omega) (by omega) (fun _ => ?_) (fun _ => ?_) <;> try (exfalso; omega))
      | (with_reducible refine WR.ne (by omega) (by omega) (fun _ => ?_) (fun _ => ?_) <;> try (exfalso; omega))
      | with_reducible refine WR.lt0 (by omega) ?_
      | with_reducible refine WR.ge0 (by omega) ?_
      | (with_reducible refine WR.bz (fun _ => ?_) (fun _ => ?_) <;> try contradiction)
      | (with_reducible refine WR.bn (fun _ => ?_) (fun _ => ?_) <;> try contradiction)
      | (with_reducible refine WR.br (fun _ => ?_) (fun _ => ?_) <;> try contradiction)
      | refine WR.gik hz rfl (by with_reducible assumption) ?_
      | refine WR.gi hz rfl ?_
      | refine WR.gr hz rfl rfl ?_
      | refine WR.addn rfl (by with_reducible rfl) (by with_reducible rfl) ?_
      | refine WR.muln rfl (by with_reducible rfl) (by with_reducible rfl) ?_
      | refine WR.subn rfl (by with_reducible rfl) (by with_reducible rfl) (by omega) ?_
      | (refine WR.incn rfl rfl ?_; dsimp only [List.set])
      | (refine WR.go rfl rfl ?_; try dsimp only [List.set])
      | refine WR.aik hz rfl rfl rfl rfl (by first | with_reducible rfl | with_reducible assumption) (by omega) (by with_reducible assumption) ?_
      | refine WR.ai hz rfl rfl rfl rfl (by first | with_reducible rfl | with_reducible assumption) (by omega) ?_
      | refine WR.si hz rfl rfl rfl rfl (by first | with_reducible rfl | with_reducible assumption) (by omega) ?_
      | refine WR.az hz rfl rfl rfl rfl (by first | with_reducible rfl | with_reducible assumption) (by omega) ?_
      | refine WR.sz hz rfl rfl rfl rfl (by first | with_reducible rfl | with_reducible assumption) (by omega) (by decide) ?_
      | refine WR.pi hz rfl ?_
      | refine WR.rt rfl rfl rfl rfl ?_
      | refine WR.rz rfl rfl (by decide) ?_)
      exact ⟨rfl, rfl⟩
    rename_i h7
    replace hv := hv.resolve_left h7
    iterate 4 (first
      | (with_reducible refine WR.lt (by omega) (by omega) (fun _ => ?_) (fun _ => ?_) <;> try (exfalso; omega))
      | (with_reducible refine WR.le (by omega) (by omega) (fun _ => ?_) (fun _ => ?_) <;> try (exfalso; omega))
      | (with_reducible refine WR.eq (by omega) (by omega) (fun _ => ?_) (fun _ => ?_) <;> try (exfalso; omega))
      | (with_reducible refine WR.ne (by omega) (by omega) (fun _ => ?_) (fun _ => ?_) <;> try (exfalso; omega))
      | with_reducible refine WR.lt0 (by omega) ?_
      | with_reducible refine WR.ge0 (by omega) ?_
      | (with_reducible refine WR.bz (fun _ => ?_) (fun _ => ?_) <;> try contradiction)
      | (with_reducible refine WR.bn (fun _ => ?_) (fun _ => ?_) <;> try contradiction)
      | (with_reducible refine WR.br (fun _ => ?_) (fun _ => ?_) <;> try contradiction)
      | refine WR.gik hz rfl (by with_reducible assumption) ?_
      | refine WR.gi hz rfl ?_
      | refine WR.gr hz rfl rfl ?_
      | refine WR.addn rfl (by with_reducible rfl) (by with_reducible rfl) ?_
      | refine WR.muln rfl (by with_reducible rfl) (by with_reducible rfl) ?_
      | refine WR.subn rfl (by with_reducible rfl) (by with_reducible rfl) (by omega) ?_
      | (refine WR.incn rfl rfl ?_; dsimp only [List.set])
      | (refine WR.go rfl rfl ?_; try dsimp only [List.set])
      | refine WR.aik hz rfl rfl rfl rfl (by first | with_reducible rfl | with_reducible assumption) (by omega) (by with_reducible assumption) ?_
      | refine WR.ai hz rfl rfl rfl rfl (by first | with_reducible rfl | with_reducible assumption) (by omega) ?_
      | refine WR.si hz rfl rfl rfl rfl (by first | with_reducible rfl | with_reducible assumption) (by omega) ?_
      | refine WR.az hz rfl rfl rfl rfl (by first | with_reducible rfl | with_reducible assumption) (by omega) ?_
      | refine WR.sz hz rfl rfl rfl rfl (by first | with_reducible rfl | with_reducible assumption) (by omega) (by decide) ?_
      | refine WR.pi hz rfl ?_
      | refine WR.rt rfl rfl rfl rfl ?_
      | refine WR.rz rfl rfl (by decide) ?_)
    · repeat' (first
      | (with_reducible refine WR.lt (by omega) (by omega) (fun _ => ?_) (fun _ => ?_) <;> try (exfalso; omega))
      | (with_reducible refine WR.le (by omega) (by omega) (fun _ => ?_) (fun _ => ?_) <;> try (exfalso; omega))
      | (with_reducible refine WR.eq (by omega) (by omega) (fun _ => ?_) (fun _ => ?_) <;> try (exfalso; omega))
      | (with_reducible refine WR.ne (by omega) (by omega) (fun _ => ?_) (fun _ => ?_) <;> try (exfalso; omega))
      | with_reducible refine WR.lt0 (by omega) ?_
      | with_reducible refine WR.ge0 (by omega) ?_
      | (with_reducible refine WR.bz (fun _ => ?_) (fun _ => ?_) <;> try contradiction)
      | (with_reducible refine WR.bn (fun _ => ?_) (fun _ => ?_) <;> try contradiction)
      | (with_reducible refine WR.br (fun _ => ?_) (fun _ => ?_) <;> try contradiction)
      | refine WR.gik hz rfl (by with_reducible assumption) ?_
      | refine WR.gi hz rfl ?_
      | refine WR.gr hz rfl rfl ?_
      | refine WR.addn rfl (by with_reducible rfl) (by with_reducible rfl) ?_
      | refine WR.muln rfl (by with_reducible rfl) (by with_reducible rfl) ?_
      | refine WR.subn rfl (by with_reducible rfl) (by with_reducible rfl) (by omega) ?_
      | (refine WR.incn rfl rfl ?_; dsimp only [List.set])
      | (refine WR.go rfl rfl ?_; try dsimp only [List.set])
      | refine WR.aik hz rfl rfl rfl rfl (by first | with_reducible rfl | with_reducible assumption) (by omega) (by with_reducible assumption) ?_
      | refine WR.ai hz rfl rfl rfl rfl (by first | with_reducible rfl | with_reducible assumption) (by omega) ?_
      | refine WR.si hz rfl rfl rfl rfl (by first | with_reducible rfl | with_reducible assumption) (by omega) ?_
      | refine WR.az hz rfl rfl rfl rfl (by first | with_reducible rfl | with_reducible assumption) (by omega) ?_
      | refine WR.sz hz rfl rfl rfl rfl (by first | with_reducible rfl | with_reducible assumption) (by omega) (by decide) ?_
      | refine WR.pi hz rfl ?_
      | refine WR.rt rfl rfl rfl rfl ?_
      | refine WR.rz rfl rfl (by decide) ?_)
      exact ⟨rfl, rfl⟩
    rename_i h8
    replace hv := hv.resolve_left h8
    iterate 1 (first
      | (with_reducible refine WR.lt (by omega) (by omega) (fun _ => ?_) (fun _ => ?_) <;> try (exfalso; omega))
      | (with_reducible refine WR.le (by omega) (by omega) (fun _ => ?_) (fun _ => ?_) <;> try (exfalso; omega))
      | (with_reducible refine WR.eq (by omega) (by omega) (fun _ => ?_) (fun _ => ?_) <;> try (exfalso; omega))
      | (with_reducible refine WR.ne (by omega) (by omega) (fun _ => ?_) (fun _ => ?_) <;> try (exfalso; omega))
      | with_reducible refine WR.lt0 (by omega) ?_
      | with_reducible refine WR.ge0 (by omega) ?_
      | (with_reducible refine WR.bz (fun _ => ?_) (fun _ => ?_) <;> try contradiction)
      | (with_reducible refine WR.bn (fun _ => ?_) (fun _ => ?_) <;> try contradiction)
      | (with_reducible refine WR.br (fun _ => ?_) (fun _ => ?_) <;> try contradiction)
      | refine WR.gik hz rfl (by with_reducible assumption) ?_
      | refine WR.gi hz rfl ?_
      | refine WR.gr hz rfl rfl ?_
      | refine WR.addn rfl (by with_reducible rfl) (by with_reducible rfl) ?_
      | refine WR.muln rfl (by with_reducible rfl) (by with_reducible rfl) ?_
      | refine WR.subn rfl (by with_reducible rfl) (by with_reducible rfl) (by omega) ?_
      | (refine WR.incn rfl rfl ?_; dsimp only [List.set])
      | (refine WR.go rfl rfl ?_; try dsimp only [List.set])
      | refine WR.aik hz rfl rfl rfl rfl (by first | with_reducible rfl | with_reducible assumption) (by omega) (by with_reducible assumption) ?_
      | refine WR.ai hz rfl rfl rfl rfl (by first | with_reducible rfl | with_reducible assumption) (by omega) ?_
      | refine WR.si hz rfl rfl rfl rfl (by first | with_reducible rfl | with_reducible assumption) (by omega) ?_
      | refine WR.az hz rfl rfl rfl rfl (by first | with_reducible rfl | with_reducible assumption) (by omega) ?_
      | refine WR.sz hz rfl rfl rfl rfl (by first | with_reducible rfl | with_reducible assumption) (by omega) (by decide) ?_
      | refine WR.pi hz rfl ?_
      | refine WR.rt rfl rfl rfl rfl ?_
      | refine WR.rz rfl rfl (by decide) ?_)
    refine WR.S1i rfl rfl (r_count d I v hz) ?_
    iterate 3 (first
      | (with_reducible refine WR.lt (by omega) (by omega) (fun _ => ?_) (fun _ => ?_) <;> try (exfalso; omega))
      | (with_reducible refine WR.le (by omega) (by omega) (fun _ => ?_) (fun _ => ?_) <;> try (exfalso; omega))
      | (with_reducible refine WR.eq (by omega) (by omega) (fun _ => ?_) (fun _ => ?_) <;> try (exfalso; omega))
      | (with_reducible refine WR.ne (by omega) (by omega) (fun _ => ?_) (fun _ => ?_) <;> try (exfalso; omega))
      | with_reducible refine WR.lt0 (by omega) ?_
      | with_reducible refine WR.ge0 (by omega) ?_
      | (with_reducible refine WR.bz (fun _ => ?_) (fun _ => ?_) <;> try contradiction)
      | (with_reducible refine WR.bn (fun _ => ?_) (fun _ => ?_) <;> try contradiction)
      | (with_reducible refine WR.br (fun _ => ?_) (fun _ => ?_) <;> try contradiction)
      | refine WR.gik hz rfl (by with_reducible assumption) ?_
      | refine WR.gi hz rfl ?_
      | refine WR.gr hz rfl rfl ?_
      | refine WR.addn rfl (by with_reducible rfl) (by with_reducible rfl) ?_
      | refine WR.muln rfl (by with_reducible rfl) (by with_reducible rfl) ?_
      | refine WR.subn rfl (by with_reducible rfl) (by with_reducible rfl) (by omega) ?_
      | (refine WR.incn rfl rfl ?_; dsimp only [List.set])
      | (refine WR.go rfl rfl ?_; try dsimp only [List.set])
      | refine WR.aik hz rfl rfl rfl rfl (by first | with_reducible rfl | with_reducible assumption) (by omega) (by with_reducible assumption) ?_
      | refine WR.ai hz rfl rfl rfl rfl (by first | with_reducible rfl | with_reducible assumption) (by omega) ?_
      | refine WR.si hz rfl rfl rfl rfl (by first | with_reducible rfl | with_reducible assumption) (by omega) ?_
      | refine WR.az hz rfl rfl rfl rfl (by first | with_reducible rfl | with_reducible assumption) (by omega) ?_
      | refine WR.sz hz rfl rfl rfl rfl (by first | with_reducible rfl | with_reducible assumption) (by omega) (by decide) ?_
      | refine WR.pi hz rfl ?_
      | refine WR.rt rfl rfl rfl rfl ?_
      | refine WR.rz rfl rfl (by decide) ?_)
    · rename_i h9; exact absurd h9 (Int32.not_le.mpr hv)
    · repeat' (first
      | (with_reducible refine WR.lt (by omega) (by omega) (fun _ => ?_) (fun _ => ?_) <;> try (exfalso; omega))
      | (with_reducible refine WR.le (by omega) (by omega) (fun _ => ?_) (fun _ => ?_) <;> try (exfalso; omega))
      | (with_reducible refine WR.eq (by omega) (by omega) (fun _ => ?_) (fun _ => ?_) <;> try (exfalso; omega))
      | (with_reducible refine WR.ne (by omega) (by omega) (fun _ => ?_) (fun _ => ?_) <;> try (exfalso; omega))
      | with_reducible refine WR.lt0 (by omega) ?_
      | with_reducible refine WR.ge0 (by omega) ?_
      | (with_reducible refine WR.bz (fun _ => ?_) (fun _ => ?_) <;> try contradiction)
      | (with_reducible refine WR.bn (fun _ => ?_) (fun _ => ?_) <;> try contradiction)
      | (with_reducible refine WR.br (fun _ => ?_) (fun _ => ?_) <;> try contradiction)
      | refine WR.gik hz rfl (by with_reducible assumption) ?_
      | refine WR.gi hz rfl ?_
      | refine WR.gr hz rfl rfl ?_
      | refine WR.addn rfl (by with_reducible rfl) (by with_reducible rfl) ?_
      | refine WR.muln rfl (by with_reducible rfl) (by with_reducible rfl) ?_
      | refine WR.subn rfl (by with_reducible rfl) (by with_reducible rfl) (by omega) ?_
      | (refine WR.incn rfl rfl ?_; dsimp only [List.set])
      | (refine WR.go rfl rfl ?_; try dsimp only [List.set])
      | refine WR.aik hz rfl rfl rfl rfl (by first | with_reducible rfl | with_reducible assumption) (by omega) (by with_reducible assumption) ?_
      | refine WR.ai hz rfl rfl rfl rfl (by first | with_reducible rfl | with_reducible assumption) (by omega) ?_
      | refine WR.si hz rfl rfl rfl rfl (by first | with_reducible rfl | with_reducible assumption) (by omega) ?_
      | refine WR.az hz rfl rfl rfl rfl (by first | with_reducible rfl | with_reducible assumption) (by omega) ?_
      | refine WR.sz hz rfl rfl rfl rfl (by first | with_reducible rfl | with_reducible assumption) (by omega) (by decide) ?_
      | refine WR.pi hz rfl ?_
      | refine WR.rt rfl rfl rfl rfl ?_
      | refine WR.rz rfl rfl (by decide) ?_)
      exact ⟨rfl, rfl⟩
  · repeat' (first
      | (with_reducible refine WR.lt (by omega) (by omega) (fun _ => ?_) (fun _ => ?_) <;> try (exfalso; omega))
      | (with_reducible refine WR.le (by omega) (by omega) (fun _ => ?_) (fun _ => ?_) <;> try (exfalso; omega))
      | (with_reducible refine WR.eq (by omega) (by omega) (fun _ => ?_) (fun _ => ?_) <;> try (exfalso; omega))
      | (with_reducible refine WR.ne (by omega) (by omega) (fun _ => ?_) (fun _ => ?_) <;> try (exfalso; omega))
      | with_reducible refine WR.lt0 (by omega) ?_
      | with_reducible refine WR.ge0 (by omega) ?_
      | (with_reducible refine WR.bz (fun _ => ?_) (fun _ => ?_) <;> try contradiction)
      | (with_reducible refine WR.bn (fun _ => ?_) (fun _ => ?_) <;> try contradiction)
      | (with_reducible refine WR.br (fun _ => ?_) (fun _ => ?_) <;> try contradiction)
      | refine WR.gik hz rfl (by with_reducible assumption) ?_
      | refine WR.gi hz rfl ?_
      | refine WR.gr hz rfl rfl ?_
      | refine WR.addn rfl (by with_reducible rfl) (by with_reducible rfl) ?_
      | refine WR.muln rfl (by with_reducible rfl) (by with_reducible rfl) ?_
      | refine WR.subn rfl (by with_reducible rfl) (by with_reducible rfl) (by omega) ?_
      | (refine WR.incn rfl rfl ?_; dsimp only [List.set])
      | (refine WR.go rfl rfl ?_; try dsimp only [List.set])
      | refine WR.aik hz rfl rfl rfl rfl (by first | with_reducible rfl | with_reducible assumption) (by omega) (by with_reducible assumption) ?_
      | refine WR.ai hz rfl rfl rfl rfl (by first | with_reducible rfl | with_reducible assumption) (by omega) ?_
      | refine WR.si hz rfl rfl rfl rfl (by first | with_reducible rfl | with_reducible assumption) (by omega) ?_
      | refine WR.az hz rfl rfl rfl rfl (by first | with_reducible rfl | with_reducible assumption) (by omega) ?_
      | refine WR.sz hz rfl rfl rfl rfl (by first | with_reducible rfl | with_reducible assumption) (by omega) (by decide) ?_
      | refine WR.pi hz rfl ?_
      | refine WR.rt rfl rfl rfl rfl ?_
      | refine WR.rz rfl rfl (by decide) ?_)
    exact ⟨rfl, rfl⟩
end PUBC
