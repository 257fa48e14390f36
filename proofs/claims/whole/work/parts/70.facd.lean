/-! the class: its face, last part -/
section FACD
variable {M M1 : xM} {C C1 : xCC} {r : Nat} {s a : Nat} {S : xS} {m : xG}
set_option maxHeartbeats 4000000 in
theorem k_lk0 (d : Nat) {k : Nat} {v : Int32} (h : Rp M C) (hr : r < 5) (hk : k < 2 ^ 31) (hw : Wp (d + 7) 90 (if k < 0 then 166 else [64, 77, 82, 90, 98, 117, 130, 147].getD (k - 0) 166) [some (.ref 0), some (.int (nI r)), some (.int (nI k)), some (.ref (9 + 13 * r))] [] M (fun M' w => M' = M ∧ w = some (.int v))) : Ev (d + 8) 90 M [.ref 0, .int (nI r), .int (nI k)] (fun M' w => M' = M ∧ w = some (.int v)) := by
  obtain ⟨m1, m2, m3, m4, m5, m6, m7, m8⟩ := h.hm
  refine Ev.of (ls := [some (.ref 0), some (.int (nI r)), some (.int (nI k)), none]) rfl rfl ?_
  repeat' ((with_reducible fail_if_success show Wp _ _ 1 _ _ _ _); (first
      | (with_reducible refine Wp.lt (by omega) (by omega) (fun _ => ?_) (fun _ => ?_) <;> try (exfalso; omega))
      | (with_reducible refine Wp.le (by omega) (by omega) (fun _ => ?_) (fun _ => ?_) <;> try (exfalso; omega))
      | (with_reducible refine Wp.eq (by omega) (by omega) (fun _ => ?_) (fun _ => ?_) <;> try (exfalso; omega))
      | (with_reducible refine Wp.ne (by omega) (by omega) (fun _ => ?_) (fun _ => ?_) <;> try (exfalso; omega))
      | with_reducible refine Wp.lt0 (by omega) ?_
      | with_reducible refine Wp.ge0 (by omega) ?_
      | (with_reducible refine Wp.bz (fun _ => ?_) (fun _ => ?_) <;> try contradiction)
      | (with_reducible refine Wp.bn (fun _ => ?_) (fun _ => ?_) <;> try contradiction)
      | (with_reducible refine Wp.br (fun _ => ?_) (fun _ => ?_) <;> try contradiction)
      | refine Wp.gik rfl (by assumption) (by with_reducible assumption) ?_
      | refine Wp.gi rfl (by assumption) ?_
      | refine Wp.gz rfl (by assumption) ?_
      | refine Wp.gr rfl (by assumption) (by assumption) ?_
      | refine Wp.gn rfl (by assumption) (by assumption) ?_
      | refine Wp.gl rfl (by assumption) ?_
      | refine Wp.addn rfl (by with_reducible rfl) (by with_reducible rfl) ?_
      | refine Wp.muln rfl (by with_reducible rfl) (by with_reducible rfl) ?_
      | refine Wp.subn rfl (by with_reducible rfl) (by with_reducible rfl) (by omega) ?_
      | (refine Wp.decn rfl rfl ?_; dsimp only [List.set])
      | (refine Wp.incn rfl rfl ?_; dsimp only [List.set])
      | (refine Wp.go rfl rfl ?_; try dsimp only [List.set])
      | refine Wp.pi rfl (by assumption) ?_
      | refine Wp.pr rfl (by assumption) ?_
      | refine Wp.pn rfl (by assumption) ?_
      | refine Wp.pl rfl (by assumption) ?_
      | refine Wp.aik rfl (by assumption) rfl (by first | with_reducible rfl | with_reducible assumption) (by omega) (by with_reducible assumption) ?_
      | refine Wp.aiN rfl (by assumption) rfl (by first | with_reducible rfl | with_reducible assumption) (by omega) ?_
      | refine Wp.siN rfl (by assumption) rfl (by first | with_reducible rfl | with_reducible assumption) (by omega) ?_
      | refine Wp.rt rfl rfl rfl rfl ?_
      | refine Wp.rz rfl rfl (by decide) ?_))
  refine Wp.S1i rfl rfl (k_isRep (d + 6) M.2.1 (Z := zO M) (nI r)).ev0 ?_
  rw [f_rep_n hr]
  repeat' ((with_reducible fail_if_success show Wp _ _ 14 _ _ _ _); (first
      | (with_reducible refine Wp.lt (by omega) (by omega) (fun _ => ?_) (fun _ => ?_) <;> try (exfalso; omega))
      | (with_reducible refine Wp.le (by omega) (by omega) (fun _ => ?_) (fun _ => ?_) <;> try (exfalso; omega))
      | (with_reducible refine Wp.eq (by omega) (by omega) (fun _ => ?_) (fun _ => ?_) <;> try (exfalso; omega))
      | (with_reducible refine Wp.ne (by omega) (by omega) (fun _ => ?_) (fun _ => ?_) <;> try (exfalso; omega))
      | with_reducible refine Wp.lt0 (by omega) ?_
      | with_reducible refine Wp.ge0 (by omega) ?_
      | (with_reducible refine Wp.bz (fun _ => ?_) (fun _ => ?_) <;> try contradiction)
      | (with_reducible refine Wp.bn (fun _ => ?_) (fun _ => ?_) <;> try contradiction)
      | (with_reducible refine Wp.br (fun _ => ?_) (fun _ => ?_) <;> try contradiction)
      | refine Wp.gik rfl (by assumption) (by with_reducible assumption) ?_
      | refine Wp.gi rfl (by assumption) ?_
      | refine Wp.gz rfl (by assumption) ?_
      | refine Wp.gr rfl (by assumption) (by assumption) ?_
      | refine Wp.gn rfl (by assumption) (by assumption) ?_
      | refine Wp.gl rfl (by assumption) ?_
      | refine Wp.addn rfl (by with_reducible rfl) (by with_reducible rfl) ?_
      | refine Wp.muln rfl (by with_reducible rfl) (by with_reducible rfl) ?_
      | refine Wp.subn rfl (by with_reducible rfl) (by with_reducible rfl) (by omega) ?_
      | (refine Wp.decn rfl rfl ?_; dsimp only [List.set])
      | (refine Wp.incn rfl rfl ?_; dsimp only [List.set])
      | (refine Wp.go rfl rfl ?_; try dsimp only [List.set])
      | refine Wp.pi rfl (by assumption) ?_
      | refine Wp.pr rfl (by assumption) ?_
      | refine Wp.pn rfl (by assumption) ?_
      | refine Wp.pl rfl (by assumption) ?_
      | refine Wp.aik rfl (by assumption) rfl (by first | with_reducible rfl | with_reducible assumption) (by omega) (by with_reducible assumption) ?_
      | refine Wp.aiN rfl (by assumption) rfl (by first | with_reducible rfl | with_reducible assumption) (by omega) ?_
      | refine Wp.siN rfl (by assumption) rfl (by first | with_reducible rfl | with_reducible assumption) (by omega) ?_
      | refine Wp.rt rfl rfl rfl rfl ?_
      | refine Wp.rz rfl rfl (by decide) ?_))
  refine Wp.aq rfl m5 (by decide) hr (by decide) (m6 r hr) ?_
  repeat' ((with_reducible fail_if_success show Wp _ _ 17 _ _ _ _); (first
      | (with_reducible refine Wp.lt (by omega) (by omega) (fun _ => ?_) (fun _ => ?_) <;> try (exfalso; omega))
      | (with_reducible refine Wp.le (by omega) (by omega) (fun _ => ?_) (fun _ => ?_) <;> try (exfalso; omega))
      | (with_reducible refine Wp.eq (by omega) (by omega) (fun _ => ?_) (fun _ => ?_) <;> try (exfalso; omega))
      | (with_reducible refine Wp.ne (by omega) (by omega) (fun _ => ?_) (fun _ => ?_) <;> try (exfalso; omega))
      | with_reducible refine Wp.lt0 (by omega) ?_
      | with_reducible refine Wp.ge0 (by omega) ?_
      | (with_reducible refine Wp.bz (fun _ => ?_) (fun _ => ?_) <;> try contradiction)
      | (with_reducible refine Wp.bn (fun _ => ?_) (fun _ => ?_) <;> try contradiction)
      | (with_reducible refine Wp.br (fun _ => ?_) (fun _ => ?_) <;> try contradiction)
      | refine Wp.gik rfl (by assumption) (by with_reducible assumption) ?_
      | refine Wp.gi rfl (by assumption) ?_
      | refine Wp.gz rfl (by assumption) ?_
      | refine Wp.gr rfl (by assumption) (by assumption) ?_
      | refine Wp.gn rfl (by assumption) (by assumption) ?_
      | refine Wp.gl rfl (by assumption) ?_
      | refine Wp.addn rfl (by with_reducible rfl) (by with_reducible rfl) ?_
      | refine Wp.muln rfl (by with_reducible rfl) (by with_reducible rfl) ?_
      | refine Wp.subn rfl (by with_reducible rfl) (by with_reducible rfl) (by omega) ?_
      | (refine Wp.decn rfl rfl ?_; dsimp only [List.set])
      | (refine Wp.incn rfl rfl ?_; dsimp only [List.set])
      | (refine Wp.go rfl rfl ?_; try dsimp only [List.set])
      | refine Wp.pi rfl (by assumption) ?_
      | refine Wp.pr rfl (by assumption) ?_
      | refine Wp.pn rfl (by assumption) ?_
      | refine Wp.pl rfl (by assumption) ?_
      | refine Wp.aik rfl (by assumption) rfl (by first | with_reducible rfl | with_reducible assumption) (by omega) (by with_reducible assumption) ?_
      | refine Wp.aiN rfl (by assumption) rfl (by first | with_reducible rfl | with_reducible assumption) (by omega) ?_
      | refine Wp.siN rfl (by assumption) rfl (by first | with_reducible rfl | with_reducible assumption) (by omega) ?_
      | refine Wp.rt rfl rfl rfl rfl ?_
      | refine Wp.rz rfl rfl (by decide) ?_))
  exact Wp.ts rfl hk rfl hw
set_option maxHeartbeats 4000000 in
theorem k_lk_n (d : Nat) {x y : Int32} (h : Rp M C) (hx : f_rep x = false) : Ev (d + 8) 90 M [.ref 0, .int x, .int y] (fun M' w => M' = M ∧ w = some (.int (-1))) := by
  refine Ev.of (ls := [some (.ref 0), some (.int x), some (.int y), none]) rfl rfl ?_
  repeat' ((with_reducible fail_if_success show Wp _ _ 1 _ _ _ _); (first
      | (with_reducible refine Wp.lt (by omega) (by omega) (fun _ => ?_) (fun _ => ?_) <;> try (exfalso; omega))
      | (with_reducible refine Wp.le (by omega) (by omega) (fun _ => ?_) (fun _ => ?_) <;> try (exfalso; omega))
      | (with_reducible refine Wp.eq (by omega) (by omega) (fun _ => ?_) (fun _ => ?_) <;> try (exfalso; omega))
      | (with_reducible refine Wp.ne (by omega) (by omega) (fun _ => ?_) (fun _ => ?_) <;> try (exfalso; omega))
      | with_reducible refine Wp.lt0 (by omega) ?_
      | with_reducible refine Wp.ge0 (by omega) ?_
      | (with_reducible refine Wp.bz (fun _ => ?_) (fun _ => ?_) <;> try contradiction)
      | (with_reducible refine Wp.bn (fun _ => ?_) (fun _ => ?_) <;> try contradiction)
      | (with_reducible refine Wp.br (fun _ => ?_) (fun _ => ?_) <;> try contradiction)
      | refine Wp.gik rfl (by assumption) (by with_reducible assumption) ?_
      | refine Wp.gi rfl (by assumption) ?_
      | refine Wp.gz rfl (by assumption) ?_
      | refine Wp.gr rfl (by assumption) (by assumption) ?_
      | refine Wp.gn rfl (by assumption) (by assumption) ?_
      | refine Wp.gl rfl (by assumption) ?_
      | refine Wp.addn rfl (by with_reducible rfl) (by with_reducible rfl) ?_
      | refine Wp.muln rfl (by with_reducible rfl) (by with_reducible rfl) ?_
      | refine Wp.subn rfl (by with_reducible rfl) (by with_reducible rfl) (by omega) ?_
      | (refine Wp.decn rfl rfl ?_; dsimp only [List.set])
      | (refine Wp.incn rfl rfl ?_; dsimp only [List.set])
      | (refine Wp.go rfl rfl ?_; try dsimp only [List.set])
      | refine Wp.pi rfl (by assumption) ?_
      | refine Wp.pr rfl (by assumption) ?_
      | refine Wp.pn rfl (by assumption) ?_
      | refine Wp.pl rfl (by assumption) ?_
      | refine Wp.aik rfl (by assumption) rfl (by first | with_reducible rfl | with_reducible assumption) (by omega) (by with_reducible assumption) ?_
      | refine Wp.aiN rfl (by assumption) rfl (by first | with_reducible rfl | with_reducible assumption) (by omega) ?_
      | refine Wp.siN rfl (by assumption) rfl (by first | with_reducible rfl | with_reducible assumption) (by omega) ?_
      | refine Wp.rt rfl rfl rfl rfl ?_
      | refine Wp.rz rfl rfl (by decide) ?_))
  refine Wp.S1i rfl rfl (k_isRep (d + 6) M.2.1 (Z := zO M) x).ev0 ?_
  rw [hx]
  repeat' (first
      | (with_reducible refine Wp.lt (by omega) (by omega) (fun _ => ?_) (fun _ => ?_) <;> try (exfalso; omega))
      | (with_reducible refine Wp.le (by omega) (by omega) (fun _ => ?_) (fun _ => ?_) <;> try (exfalso; omega))
      | (with_reducible refine Wp.eq (by omega) (by omega) (fun _ => ?_) (fun _ => ?_) <;> try (exfalso; omega))
      | (with_reducible refine Wp.ne (by omega) (by omega) (fun _ => ?_) (fun _ => ?_) <;> try (exfalso; omega))
      | with_reducible refine Wp.lt0 (by omega) ?_
      | with_reducible refine Wp.ge0 (by omega) ?_
      | (with_reducible refine Wp.bz (fun _ => ?_) (fun _ => ?_) <;> try contradiction)
      | (with_reducible refine Wp.bn (fun _ => ?_) (fun _ => ?_) <;> try contradiction)
      | (with_reducible refine Wp.br (fun _ => ?_) (fun _ => ?_) <;> try contradiction)
      | refine Wp.gik rfl (by assumption) (by with_reducible assumption) ?_
      | refine Wp.gi rfl (by assumption) ?_
      | refine Wp.gz rfl (by assumption) ?_
      | refine Wp.gr rfl (by assumption) (by assumption) ?_
      | refine Wp.gn rfl (by assumption) (by assumption) ?_
      | refine Wp.gl rfl (by assumption) ?_
      | refine Wp.addn rfl (by with_reducible rfl) (by with_reducible rfl) ?_
      | refine Wp.muln rfl (by with_reducible rfl) (by with_reducible rfl) ?_
      | refine Wp.subn rfl (by with_reducible rfl) (by with_reducible rfl) (by omega) ?_
      | (refine Wp.decn rfl rfl ?_; dsimp only [List.set])
      | (refine Wp.incn rfl rfl ?_; dsimp only [List.set])
      | (refine Wp.go rfl rfl ?_; try dsimp only [List.set])
      | refine Wp.pi rfl (by assumption) ?_
      | refine Wp.pr rfl (by assumption) ?_
      | refine Wp.pn rfl (by assumption) ?_
      | refine Wp.pl rfl (by assumption) ?_
      | refine Wp.aik rfl (by assumption) rfl (by first | with_reducible rfl | with_reducible assumption) (by omega) (by with_reducible assumption) ?_
      | refine Wp.aiN rfl (by assumption) rfl (by first | with_reducible rfl | with_reducible assumption) (by omega) ?_
      | refine Wp.siN rfl (by assumption) rfl (by first | with_reducible rfl | with_reducible assumption) (by omega) ?_
      | refine Wp.rt rfl rfl rfl rfl ?_
      | refine Wp.rz rfl rfl (by decide) ?_)
  exact ⟨rfl, rfl⟩
set_option maxHeartbeats 4000000 in
theorem k_lk_d (d : Nat) {y : Int32} (h : Rp M C) (hr : r < 5) (hy : y < 0 ∨ (8 : Int) ≤ y.toInt) : Ev (d + 8) 90 M [.ref 0, .int (nI r), .int y] (fun M' w => M' = M ∧ w = some (.int (-1))) := by
  obtain ⟨m1, m2, m3, m4, m5, m6, m7, m8⟩ := h.hm
  refine Ev.of (ls := [some (.ref 0), some (.int (nI r)), some (.int y), none]) rfl rfl ?_
  repeat' ((with_reducible fail_if_success show Wp _ _ 1 _ _ _ _); (first
      | (with_reducible refine Wp.lt (by omega) (by omega) (fun _ => ?_) (fun _ => ?_) <;> try (exfalso; omega))
      | (with_reducible refine Wp.le (by omega) (by omega) (fun _ => ?_) (fun _ => ?_) <;> try (exfalso; omega))
      | (with_reducible refine Wp.eq (by omega) (by omega) (fun _ => ?_) (fun _ => ?_) <;> try (exfalso; omega))
      | (with_reducible refine Wp.ne (by omega) (by omega) (fun _ => ?_) (fun _ => ?_) <;> try (exfalso; omega))
      | with_reducible refine Wp.lt0 (by omega) ?_
      | with_reducible refine Wp.ge0 (by omega) ?_
      | (with_reducible refine Wp.bz (fun _ => ?_) (fun _ => ?_) <;> try contradiction)
      | (with_reducible refine Wp.bn (fun _ => ?_) (fun _ => ?_) <;> try contradiction)
      | (with_reducible refine Wp.br (fun _ => ?_) (fun _ => ?_) <;> try contradiction)
      | refine Wp.gik rfl (by assumption) (by with_reducible assumption) ?_
      | refine Wp.gi rfl (by assumption) ?_
      | refine Wp.gz rfl (by assumption) ?_
      | refine Wp.gr rfl (by assumption) (by assumption) ?_
      | refine Wp.gn rfl (by assumption) (by assumption) ?_
      | refine Wp.gl rfl (by assumption) ?_
      | refine Wp.addn rfl (by with_reducible rfl) (by with_reducible rfl) ?_
      | refine Wp.muln rfl (by with_reducible rfl) (by with_reducible rfl) ?_
      | refine Wp.subn rfl (by with_reducible rfl) (by with_reducible rfl) (by omega) ?_
      | (refine Wp.decn rfl rfl ?_; dsimp only [List.set])
      | (refine Wp.incn rfl rfl ?_; dsimp only [List.set])
      | (refine Wp.go rfl rfl ?_; try dsimp only [List.set])
      | refine Wp.pi rfl (by assumption) ?_
      | refine Wp.pr rfl (by assumption) ?_
      | refine Wp.pn rfl (by assumption) ?_
      | refine Wp.pl rfl (by assumption) ?_
      | refine Wp.aik rfl (by assumption) rfl (by first | with_reducible rfl | with_reducible assumption) (by omega) (by with_reducible assumption) ?_
      | refine Wp.aiN rfl (by assumption) rfl (by first | with_reducible rfl | with_reducible assumption) (by omega) ?_
      | refine Wp.siN rfl (by assumption) rfl (by first | with_reducible rfl | with_reducible assumption) (by omega) ?_
      | refine Wp.rt rfl rfl rfl rfl ?_
      | refine Wp.rz rfl rfl (by decide) ?_))
  refine Wp.S1i rfl rfl (k_isRep (d + 6) M.2.1 (Z := zO M) (nI r)).ev0 ?_
  rw [f_rep_n hr]
  repeat' ((with_reducible fail_if_success show Wp _ _ 14 _ _ _ _); (first
      | (with_reducible refine Wp.lt (by omega) (by omega) (fun _ => ?_) (fun _ => ?_) <;> try (exfalso; omega))
      | (with_reducible refine Wp.le (by omega) (by omega) (fun _ => ?_) (fun _ => ?_) <;> try (exfalso; omega))
      | (with_reducible refine Wp.eq (by omega) (by omega) (fun _ => ?_) (fun _ => ?_) <;> try (exfalso; omega))
      | (with_reducible refine Wp.ne (by omega) (by omega) (fun _ => ?_) (fun _ => ?_) <;> try (exfalso; omega))
      | with_reducible refine Wp.lt0 (by omega) ?_
      | with_reducible refine Wp.ge0 (by omega) ?_
      | (with_reducible refine Wp.bz (fun _ => ?_) (fun _ => ?_) <;> try contradiction)
      | (with_reducible refine Wp.bn (fun _ => ?_) (fun _ => ?_) <;> try contradiction)
      | (with_reducible refine Wp.br (fun _ => ?_) (fun _ => ?_) <;> try contradiction)
      | refine Wp.gik rfl (by assumption) (by with_reducible assumption) ?_
      | refine Wp.gi rfl (by assumption) ?_
      | refine Wp.gz rfl (by assumption) ?_
      | refine Wp.gr rfl (by assumption) (by assumption) ?_
      | refine Wp.gn rfl (by assumption) (by assumption) ?_
      | refine Wp.gl rfl (by assumption) ?_
      | refine Wp.addn rfl (by with_reducible rfl) (by with_reducible rfl) ?_
      | refine Wp.muln rfl (by with_reducible rfl) (by with_reducible rfl) ?_
      | refine Wp.subn rfl (by with_reducible rfl) (by with_reducible rfl) (by omega) ?_
      | (refine Wp.decn rfl rfl ?_; dsimp only [List.set])
      | (refine Wp.incn rfl rfl ?_; dsimp only [List.set])
      | (refine Wp.go rfl rfl ?_; try dsimp only [List.set])
      | refine Wp.pi rfl (by assumption) ?_
      | refine Wp.pr rfl (by assumption) ?_
      | refine Wp.pn rfl (by assumption) ?_
      | refine Wp.pl rfl (by assumption) ?_
      | refine Wp.aik rfl (by assumption) rfl (by first | with_reducible rfl | with_reducible assumption) (by omega) (by with_reducible assumption) ?_
      | refine Wp.aiN rfl (by assumption) rfl (by first | with_reducible rfl | with_reducible assumption) (by omega) ?_
      | refine Wp.siN rfl (by assumption) rfl (by first | with_reducible rfl | with_reducible assumption) (by omega) ?_
      | refine Wp.rt rfl rfl rfl rfl ?_
      | refine Wp.rz rfl rfl (by decide) ?_))
  refine Wp.aq rfl m5 (by decide) hr (by decide) (m6 r hr) ?_
  repeat' ((with_reducible fail_if_success show Wp _ _ 17 _ _ _ _); (first
      | (with_reducible refine Wp.lt (by omega) (by omega) (fun _ => ?_) (fun _ => ?_) <;> try (exfalso; omega))
      | (with_reducible refine Wp.le (by omega) (by omega) (fun _ => ?_) (fun _ => ?_) <;> try (exfalso; omega))
      | (with_reducible refine Wp.eq (by omega) (by omega) (fun _ => ?_) (fun _ => ?_) <;> try (exfalso; omega))
      | (with_reducible refine Wp.ne (by omega) (by omega) (fun _ => ?_) (fun _ => ?_) <;> try (exfalso; omega))
      | with_reducible refine Wp.lt0 (by omega) ?_
      | with_reducible refine Wp.ge0 (by omega) ?_
      | (with_reducible refine Wp.bz (fun _ => ?_) (fun _ => ?_) <;> try contradiction)
      | (with_reducible refine Wp.bn (fun _ => ?_) (fun _ => ?_) <;> try contradiction)
      | (with_reducible refine Wp.br (fun _ => ?_) (fun _ => ?_) <;> try contradiction)
      | refine Wp.gik rfl (by assumption) (by with_reducible assumption) ?_
      | refine Wp.gi rfl (by assumption) ?_
      | refine Wp.gz rfl (by assumption) ?_
      | refine Wp.gr rfl (by assumption) (by assumption) ?_
      | refine Wp.gn rfl (by assumption) (by assumption) ?_
      | refine Wp.gl rfl (by assumption) ?_
      | refine Wp.addn rfl (by with_reducible rfl) (by with_reducible rfl) ?_
      | refine Wp.muln rfl (by with_reducible rfl) (by with_reducible rfl) ?_
      | refine Wp.subn rfl (by with_reducible rfl) (by with_reducible rfl) (by omega) ?_
      | (refine Wp.decn rfl rfl ?_; dsimp only [List.set])
      | (refine Wp.incn rfl rfl ?_; dsimp only [List.set])
      | (refine Wp.go rfl rfl ?_; try dsimp only [List.set])
      | refine Wp.pi rfl (by assumption) ?_
      | refine Wp.pr rfl (by assumption) ?_
      | refine Wp.pn rfl (by assumption) ?_
      | refine Wp.pl rfl (by assumption) ?_
      | refine Wp.aik rfl (by assumption) rfl (by first | with_reducible rfl | with_reducible assumption) (by omega) (by with_reducible assumption) ?_
      | refine Wp.aiN rfl (by assumption) rfl (by first | with_reducible rfl | with_reducible assumption) (by omega) ?_
      | refine Wp.siN rfl (by assumption) rfl (by first | with_reducible rfl | with_reducible assumption) (by omega) ?_
      | refine Wp.rt rfl rfl rfl rfl ?_
      | refine Wp.rz rfl rfl (by decide) ?_))
  refine Wp.tso rfl hy ?_
  repeat' (first
      | (with_reducible refine Wp.lt (by omega) (by omega) (fun _ => ?_) (fun _ => ?_) <;> try (exfalso; omega))
      | (with_reducible refine Wp.le (by omega) (by omega) (fun _ => ?_) (fun _ => ?_) <;> try (exfalso; omega))
      | (with_reducible refine Wp.eq (by omega) (by omega) (fun _ => ?_) (fun _ => ?_) <;> try (exfalso; omega))
      | (with_reducible refine Wp.ne (by omega) (by omega) (fun _ => ?_) (fun _ => ?_) <;> try (exfalso; omega))
      | with_reducible refine Wp.lt0 (by omega) ?_
      | with_reducible refine Wp.ge0 (by omega) ?_
      | (with_reducible refine Wp.bz (fun _ => ?_) (fun _ => ?_) <;> try contradiction)
      | (with_reducible refine Wp.bn (fun _ => ?_) (fun _ => ?_) <;> try contradiction)
      | (with_reducible refine Wp.br (fun _ => ?_) (fun _ => ?_) <;> try contradiction)
      | refine Wp.gik rfl (by assumption) (by with_reducible assumption) ?_
      | refine Wp.gi rfl (by assumption) ?_
      | refine Wp.gz rfl (by assumption) ?_
      | refine Wp.gr rfl (by assumption) (by assumption) ?_
      | refine Wp.gn rfl (by assumption) (by assumption) ?_
      | refine Wp.gl rfl (by assumption) ?_
      | refine Wp.addn rfl (by with_reducible rfl) (by with_reducible rfl) ?_
      | refine Wp.muln rfl (by with_reducible rfl) (by with_reducible rfl) ?_
      | refine Wp.subn rfl (by with_reducible rfl) (by with_reducible rfl) (by omega) ?_
      | (refine Wp.decn rfl rfl ?_; dsimp only [List.set])
      | (refine Wp.incn rfl rfl ?_; dsimp only [List.set])
      | (refine Wp.go rfl rfl ?_; try dsimp only [List.set])
      | refine Wp.pi rfl (by assumption) ?_
      | refine Wp.pr rfl (by assumption) ?_
      | refine Wp.pn rfl (by assumption) ?_
      | refine Wp.pl rfl (by assumption) ?_
      | refine Wp.aik rfl (by assumption) rfl (by first | with_reducible rfl | with_reducible assumption) (by omega) (by with_reducible assumption) ?_
      | refine Wp.aiN rfl (by assumption) rfl (by first | with_reducible rfl | with_reducible assumption) (by omega) ?_
      | refine Wp.siN rfl (by assumption) rfl (by first | with_reducible rfl | with_reducible assumption) (by omega) ?_
      | refine Wp.rt rfl rfl rfl rfl ?_
      | refine Wp.rz rfl rfl (by decide) ?_)
  exact ⟨rfl, rfl⟩
set_option maxHeartbeats 4000000 in
theorem k_lk_0 (d : Nat) {b : Bool} (h : Rp M C) (hr : r < 5) (hu : C.1 (9 + 13 * r) 3 = bI b) : Ev (d + 8) 90 M [.ref 0, .int (nI r), .int (nI 0)] (fun M' w => M' = M ∧ w = some (.int (bI b))) := by
  obtain ⟨p1, p2, p3, p4, p5, p6⟩ := h.f hr
  have hup : M.2.1 (9 + 13 * r) 3 = bI b := (h.1 _ _ (by omega)).trans hu
  refine k_lk0 d h hr (by decide) ?_
  show Wp (d + 7) 90 64 _ _ _ _
  repeat' ((with_reducible fail_if_success show Wp _ _ 68 _ _ _ _); (first
      | (with_reducible refine Wp.lt (by omega) (by omega) (fun _ => ?_) (fun _ => ?_) <;> try (exfalso; omega))
      | (with_reducible refine Wp.le (by omega) (by omega) (fun _ => ?_) (fun _ => ?_) <;> try (exfalso; omega))
      | (with_reducible refine Wp.eq (by omega) (by omega) (fun _ => ?_) (fun _ => ?_) <;> try (exfalso; omega))
      | (with_reducible refine Wp.ne (by omega) (by omega) (fun _ => ?_) (fun _ => ?_) <;> try (exfalso; omega))
      | with_reducible refine Wp.lt0 (by omega) ?_
      | with_reducible refine Wp.ge0 (by omega) ?_
      | (with_reducible refine Wp.bz (fun _ => ?_) (fun _ => ?_) <;> try contradiction)
      | (with_reducible refine Wp.bn (fun _ => ?_) (fun _ => ?_) <;> try contradiction)
      | (with_reducible refine Wp.br (fun _ => ?_) (fun _ => ?_) <;> try contradiction)
      | refine Wp.gik rfl (by assumption) (by with_reducible assumption) ?_
      | refine Wp.gi rfl (by assumption) ?_
      | refine Wp.gz rfl (by assumption) ?_
      | refine Wp.gr rfl (by assumption) (by assumption) ?_
      | refine Wp.gn rfl (by assumption) (by assumption) ?_
      | refine Wp.gl rfl (by assumption) ?_
      | refine Wp.addn rfl (by with_reducible rfl) (by with_reducible rfl) ?_
      | refine Wp.muln rfl (by with_reducible rfl) (by with_reducible rfl) ?_
      | refine Wp.subn rfl (by with_reducible rfl) (by with_reducible rfl) (by omega) ?_
      | (refine Wp.decn rfl rfl ?_; dsimp only [List.set])
      | (refine Wp.incn rfl rfl ?_; dsimp only [List.set])
      | (refine Wp.go rfl rfl ?_; try dsimp only [List.set])
      | refine Wp.pi rfl (by assumption) ?_
      | refine Wp.pr rfl (by assumption) ?_
      | refine Wp.pn rfl (by assumption) ?_
      | refine Wp.pl rfl (by assumption) ?_
      | refine Wp.aik rfl (by assumption) rfl (by first | with_reducible rfl | with_reducible assumption) (by omega) (by with_reducible assumption) ?_
      | refine Wp.aiN rfl (by assumption) rfl (by first | with_reducible rfl | with_reducible assumption) (by omega) ?_
      | refine Wp.siN rfl (by assumption) rfl (by first | with_reducible rfl | with_reducible assumption) (by omega) ?_
      | refine Wp.rt rfl rfl rfl rfl ?_
      | refine Wp.rz rfl rfl (by decide) ?_))
  rw [hup]
  repeat' (first
      | (with_reducible refine Wp.lt (by omega) (by omega) (fun _ => ?_) (fun _ => ?_) <;> try (exfalso; omega))
      | (with_reducible refine Wp.le (by omega) (by omega) (fun _ => ?_) (fun _ => ?_) <;> try (exfalso; omega))
      | (with_reducible refine Wp.eq (by omega) (by omega) (fun _ => ?_) (fun _ => ?_) <;> try (exfalso; omega))
      | (with_reducible refine Wp.ne (by omega) (by omega) (fun _ => ?_) (fun _ => ?_) <;> try (exfalso; omega))
      | with_reducible refine Wp.lt0 (by omega) ?_
      | with_reducible refine Wp.ge0 (by omega) ?_
      | (with_reducible refine Wp.bz (fun _ => ?_) (fun _ => ?_) <;> try contradiction)
      | (with_reducible refine Wp.bn (fun _ => ?_) (fun _ => ?_) <;> try contradiction)
      | (with_reducible refine Wp.br (fun _ => ?_) (fun _ => ?_) <;> try contradiction)
      | refine Wp.gik rfl (by assumption) (by with_reducible assumption) ?_
      | refine Wp.gi rfl (by assumption) ?_
      | refine Wp.gz rfl (by assumption) ?_
      | refine Wp.gr rfl (by assumption) (by assumption) ?_
      | refine Wp.gn rfl (by assumption) (by assumption) ?_
      | refine Wp.gl rfl (by assumption) ?_
      | refine Wp.addn rfl (by with_reducible rfl) (by with_reducible rfl) ?_
      | refine Wp.muln rfl (by with_reducible rfl) (by with_reducible rfl) ?_
      | refine Wp.subn rfl (by with_reducible rfl) (by with_reducible rfl) (by omega) ?_
      | (refine Wp.decn rfl rfl ?_; dsimp only [List.set])
      | (refine Wp.incn rfl rfl ?_; dsimp only [List.set])
      | (refine Wp.go rfl rfl ?_; try dsimp only [List.set])
      | refine Wp.pi rfl (by assumption) ?_
      | refine Wp.pr rfl (by assumption) ?_
      | refine Wp.pn rfl (by assumption) ?_
      | refine Wp.pl rfl (by assumption) ?_
      | refine Wp.aik rfl (by assumption) rfl (by first | with_reducible rfl | with_reducible assumption) (by omega) (by with_reducible assumption) ?_
      | refine Wp.aiN rfl (by assumption) rfl (by first | with_reducible rfl | with_reducible assumption) (by omega) ?_
      | refine Wp.siN rfl (by assumption) rfl (by first | with_reducible rfl | with_reducible assumption) (by omega) ?_
      | refine Wp.rt rfl rfl rfl rfl ?_
      | refine Wp.rz rfl rfl (by decide) ?_)
  · rename_i hb
    rw [hb]
    exact ⟨rfl, rfl⟩
  · rename_i hb
    rw [hb]
    exact ⟨rfl, rfl⟩
set_option maxHeartbeats 4000000 in
theorem k_lk_1 (d : Nat) (h : Rp M C) (hr : r < 5) : Ev (d + 8) 90 M [.ref 0, .int (nI r), .int (nI 1)] (fun M' w => M' = M ∧ w = some (.int (C.1 (9 + 13 * r) 4))) := by
  obtain ⟨p1, p2, p3, p4, p5, p6⟩ := h.f hr
  have hup : M.2.1 (9 + 13 * r) 4 = C.1 (9 + 13 * r) 4 := h.1 _ _ (by omega)
  refine k_lk0 d h hr (by decide) ?_
  show Wp (d + 7) 90 77 _ _ _ _
  repeat' (first
      | (with_reducible refine Wp.lt (by omega) (by omega) (fun _ => ?_) (fun _ => ?_) <;> try (exfalso; omega))
      | (with_reducible refine Wp.le (by omega) (by omega) (fun _ => ?_) (fun _ => ?_) <;> try (exfalso; omega))
      | (with_reducible refine Wp.eq (by omega) (by omega) (fun _ => ?_) (fun _ => ?_) <;> try (exfalso; omega))
      | (with_reducible refine Wp.ne (by omega) (by omega) (fun _ => ?_) (fun _ => ?_) <;> try (exfalso; omega))
      | with_reducible refine Wp.lt0 (by omega) ?_
      | with_reducible refine Wp.ge0 (by omega) ?_
      | (with_reducible refine Wp.bz (fun _ => ?_) (fun _ => ?_) <;> try contradiction)
      | (with_reducible refine Wp.bn (fun _ => ?_) (fun _ => ?_) <;> try contradiction)
      | (with_reducible refine Wp.br (fun _ => ?_) (fun _ => ?_) <;> try contradiction)
      | refine Wp.gik rfl (by assumption) (by with_reducible assumption) ?_
      | refine Wp.gi rfl (by assumption) ?_
      | refine Wp.gz rfl (by assumption) ?_
      | refine Wp.gr rfl (by assumption) (by assumption) ?_
      | refine Wp.gn rfl (by assumption) (by assumption) ?_
      | refine Wp.gl rfl (by assumption) ?_
      | refine Wp.addn rfl (by with_reducible rfl) (by with_reducible rfl) ?_
      | refine Wp.muln rfl (by with_reducible rfl) (by with_reducible rfl) ?_
      | refine Wp.subn rfl (by with_reducible rfl) (by with_reducible rfl) (by omega) ?_
      | (refine Wp.decn rfl rfl ?_; dsimp only [List.set])
      | (refine Wp.incn rfl rfl ?_; dsimp only [List.set])
      | (refine Wp.go rfl rfl ?_; try dsimp only [List.set])
      | refine Wp.pi rfl (by assumption) ?_
      | refine Wp.pr rfl (by assumption) ?_
      | refine Wp.pn rfl (by assumption) ?_
      | refine Wp.pl rfl (by assumption) ?_
      | refine Wp.aik rfl (by assumption) rfl (by first | with_reducible rfl | with_reducible assumption) (by omega) (by with_reducible assumption) ?_
      | refine Wp.aiN rfl (by assumption) rfl (by first | with_reducible rfl | with_reducible assumption) (by omega) ?_
      | refine Wp.siN rfl (by assumption) rfl (by first | with_reducible rfl | with_reducible assumption) (by omega) ?_
      | refine Wp.rt rfl rfl rfl rfl ?_
      | refine Wp.rz rfl rfl (by decide) ?_)
  exact ⟨rfl, rfl⟩
set_option maxHeartbeats 4000000 in
theorem k_lk_2 (d : Nat) (h : Rp M C) (hr : r < 5) : Ev (d + 8) 90 M [.ref 0, .int (nI r), .int (nI 2)] (fun M' w => M' = M ∧ w = some (.int (nI (sl (C.2.2.1 r))))) := by
  obtain ⟨p1, p2, p3, p4, p5, p6⟩ := h.f hr
  obtain ⟨t, t1, t2⟩ := h.hs hr
  obtain ⟨e1, e2, e3⟩ := t2.f
  refine k_lk0 d h hr (by decide) ?_
  show Wp (d + 7) 90 82 _ _ _ _
  repeat' (first
      | (with_reducible refine Wp.lt (by omega) (by omega) (fun _ => ?_) (fun _ => ?_) <;> try (exfalso; omega))
      | (with_reducible refine Wp.le (by omega) (by omega) (fun _ => ?_) (fun _ => ?_) <;> try (exfalso; omega))
      | (with_reducible refine Wp.eq (by omega) (by omega) (fun _ => ?_) (fun _ => ?_) <;> try (exfalso; omega))
      | (with_reducible refine Wp.ne (by omega) (by omega) (fun _ => ?_) (fun _ => ?_) <;> try (exfalso; omega))
      | with_reducible refine Wp.lt0 (by omega) ?_
      | with_reducible refine Wp.ge0 (by omega) ?_
      | (with_reducible refine Wp.bz (fun _ => ?_) (fun _ => ?_) <;> try contradiction)
      | (with_reducible refine Wp.bn (fun _ => ?_) (fun _ => ?_) <;> try contradiction)
      | (with_reducible refine Wp.br (fun _ => ?_) (fun _ => ?_) <;> try contradiction)
      | refine Wp.gik rfl (by assumption) (by with_reducible assumption) ?_
      | refine Wp.gi rfl (by assumption) ?_
      | refine Wp.gz rfl (by assumption) ?_
      | refine Wp.gr rfl (by assumption) (by assumption) ?_
      | refine Wp.gn rfl (by assumption) (by assumption) ?_
      | refine Wp.gl rfl (by assumption) ?_
      | refine Wp.addn rfl (by with_reducible rfl) (by with_reducible rfl) ?_
      | refine Wp.muln rfl (by with_reducible rfl) (by with_reducible rfl) ?_
      | refine Wp.subn rfl (by with_reducible rfl) (by with_reducible rfl) (by omega) ?_
      | (refine Wp.decn rfl rfl ?_; dsimp only [List.set])
      | (refine Wp.incn rfl rfl ?_; dsimp only [List.set])
      | (refine Wp.go rfl rfl ?_; try dsimp only [List.set])
      | refine Wp.pi rfl (by assumption) ?_
      | refine Wp.pr rfl (by assumption) ?_
      | refine Wp.pn rfl (by assumption) ?_
      | refine Wp.pl rfl (by assumption) ?_
      | refine Wp.aik rfl (by assumption) rfl (by first | with_reducible rfl | with_reducible assumption) (by omega) (by with_reducible assumption) ?_
      | refine Wp.aiN rfl (by assumption) rfl (by first | with_reducible rfl | with_reducible assumption) (by omega) ?_
      | refine Wp.siN rfl (by assumption) rfl (by first | with_reducible rfl | with_reducible assumption) (by omega) ?_
      | refine Wp.rt rfl rfl rfl rfl ?_
      | refine Wp.rz rfl rfl (by decide) ?_)
  exact ⟨rfl, rfl⟩
set_option maxHeartbeats 4000000 in
theorem k_lk_3 (d : Nat) (h : Rp M C) (hr : r < 5) : Ev (d + 8) 90 M [.ref 0, .int (nI r), .int (nI 3)] (fun M' w => M' = M ∧ w = some (.int (nI (sl (C.2.1 r))))) := by
  obtain ⟨p1, p2, p3, p4, p5, p6⟩ := h.f hr
  obtain ⟨t, t1, t2⟩ := h.hp hr
  obtain ⟨e1, e2, e3⟩ := t2.f
  refine k_lk0 d h hr (by decide) ?_
  show Wp (d + 7) 90 90 _ _ _ _
  repeat' (first
      | (with_reducible refine Wp.lt (by omega) (by omega) (fun _ => ?_) (fun _ => ?_) <;> try (exfalso; omega))
      | (with_reducible refine Wp.le (by omega) (by omega) (fun _ => ?_) (fun _ => ?_) <;> try (exfalso; omega))
      | (with_reducible refine Wp.eq (by omega) (by omega) (fun _ => ?_) (fun _ => ?_) <;> try (exfalso; omega))
      | (with_reducible refine Wp.ne (by omega) (by omega) (fun _ => ?_) (fun _ => ?_) <;> try (exfalso; omega))
      | with_reducible refine Wp.lt0 (by omega) ?_
      | with_reducible refine Wp.ge0 (by omega) ?_
      | (with_reducible refine Wp.bz (fun _ => ?_) (fun _ => ?_) <;> try contradiction)
      | (with_reducible refine Wp.bn (fun _ => ?_) (fun _ => ?_) <;> try contradiction)
      | (with_reducible refine Wp.br (fun _ => ?_) (fun _ => ?_) <;> try contradiction)
      | refine Wp.gik rfl (by assumption) (by with_reducible assumption) ?_
      | refine Wp.gi rfl (by assumption) ?_
      | refine Wp.gz rfl (by assumption) ?_
      | refine Wp.gr rfl (by assumption) (by assumption) ?_
      | refine Wp.gn rfl (by assumption) (by assumption) ?_
      | refine Wp.gl rfl (by assumption) ?_
      | refine Wp.addn rfl (by with_reducible rfl) (by with_reducible rfl) ?_
      | refine Wp.muln rfl (by with_reducible rfl) (by with_reducible rfl) ?_
      | refine Wp.subn rfl (by with_reducible rfl) (by with_reducible rfl) (by omega) ?_
      | (refine Wp.decn rfl rfl ?_; dsimp only [List.set])
      | (refine Wp.incn rfl rfl ?_; dsimp only [List.set])
      | (refine Wp.go rfl rfl ?_; try dsimp only [List.set])
      | refine Wp.pi rfl (by assumption) ?_
      | refine Wp.pr rfl (by assumption) ?_
      | refine Wp.pn rfl (by assumption) ?_
      | refine Wp.pl rfl (by assumption) ?_
      | refine Wp.aik rfl (by assumption) rfl (by first | with_reducible rfl | with_reducible assumption) (by omega) (by with_reducible assumption) ?_
      | refine Wp.aiN rfl (by assumption) rfl (by first | with_reducible rfl | with_reducible assumption) (by omega) ?_
      | refine Wp.siN rfl (by assumption) rfl (by first | with_reducible rfl | with_reducible assumption) (by omega) ?_
      | refine Wp.rt rfl rfl rfl rfl ?_
      | refine Wp.rz rfl rfl (by decide) ?_)
  exact ⟨rfl, rfl⟩
set_option maxHeartbeats 4000000 in
theorem k_lk_4 (d : Nat) (h : Rp M C) (hr : r < 5) : Ev (d + 8) 90 M [.ref 0, .int (nI r), .int (nI 4)] (fun M' w => M' = M ∧ w = some (.int (if c_cmpg C.1 (9 + 13 * r) = true then C.1 (9 + 13 * r + 6) 0 else nI 0))) := by
  obtain ⟨p1, p2, p3, p4, p5, p6⟩ := h.f hr
  obtain ⟨g1, g2, g3, g4, g5, g6, g7⟩ := h.g hr
  have hb : M.2.1 (9 + 13 * r + 6) 0 = C.1 (9 + 13 * r + 6) 0 := h.1 _ _ (by omega)
  refine k_lk0 d h hr (by decide) ?_
  show Wp (d + 7) 90 98 _ _ _ _
  iterate 1 (first
      | (with_reducible refine Wp.lt (by omega) (by omega) (fun _ => ?_) (fun _ => ?_) <;> try (exfalso; omega))
      | (with_reducible refine Wp.le (by omega) (by omega) (fun _ => ?_) (fun _ => ?_) <;> try (exfalso; omega))
      | (with_reducible refine Wp.eq (by omega) (by omega) (fun _ => ?_) (fun _ => ?_) <;> try (exfalso; omega))
      | (with_reducible refine Wp.ne (by omega) (by omega) (fun _ => ?_) (fun _ => ?_) <;> try (exfalso; omega))
      | with_reducible refine Wp.lt0 (by omega) ?_
      | with_reducible refine Wp.ge0 (by omega) ?_
      | (with_reducible refine Wp.bz (fun _ => ?_) (fun _ => ?_) <;> try contradiction)
      | (with_reducible refine Wp.bn (fun _ => ?_) (fun _ => ?_) <;> try contradiction)
      | (with_reducible refine Wp.br (fun _ => ?_) (fun _ => ?_) <;> try contradiction)
      | refine Wp.gik rfl (by assumption) (by with_reducible assumption) ?_
      | refine Wp.gi rfl (by assumption) ?_
      | refine Wp.gz rfl (by assumption) ?_
      | refine Wp.gr rfl (by assumption) (by assumption) ?_
      | refine Wp.gn rfl (by assumption) (by assumption) ?_
      | refine Wp.gl rfl (by assumption) ?_
      | refine Wp.addn rfl (by with_reducible rfl) (by with_reducible rfl) ?_
      | refine Wp.muln rfl (by with_reducible rfl) (by with_reducible rfl) ?_
      | refine Wp.subn rfl (by with_reducible rfl) (by with_reducible rfl) (by omega) ?_
      | (refine Wp.decn rfl rfl ?_; dsimp only [List.set])
      | (refine Wp.incn rfl rfl ?_; dsimp only [List.set])
      | (refine Wp.go rfl rfl ?_; try dsimp only [List.set])
      | refine Wp.pi rfl (by assumption) ?_
      | refine Wp.pr rfl (by assumption) ?_
      | refine Wp.pn rfl (by assumption) ?_
      | refine Wp.pl rfl (by assumption) ?_
      | refine Wp.aik rfl (by assumption) rfl (by first | with_reducible rfl | with_reducible assumption) (by omega) (by with_reducible assumption) ?_
      | refine Wp.aiN rfl (by assumption) rfl (by first | with_reducible rfl | with_reducible assumption) (by omega) ?_
      | refine Wp.siN rfl (by assumption) rfl (by first | with_reducible rfl | with_reducible assumption) (by omega) ?_
      | refine Wp.rt rfl rfl rfl rfl ?_
      | refine Wp.rz rfl rfl (by decide) ?_)
  refine Wp.V0i rfl p1 rfl (w_camps (d + 6) h hr) ?_
  iterate 2 (first
      | (with_reducible refine Wp.lt (by omega) (by omega) (fun _ => ?_) (fun _ => ?_) <;> try (exfalso; omega))
      | (with_reducible refine Wp.le (by omega) (by omega) (fun _ => ?_) (fun _ => ?_) <;> try (exfalso; omega))
      | (with_reducible refine Wp.eq (by omega) (by omega) (fun _ => ?_) (fun _ => ?_) <;> try (exfalso; omega))
      | (with_reducible refine Wp.ne (by omega) (by omega) (fun _ => ?_) (fun _ => ?_) <;> try (exfalso; omega))
      | with_reducible refine Wp.lt0 (by omega) ?_
      | with_reducible refine Wp.ge0 (by omega) ?_
      | (with_reducible refine Wp.bz (fun _ => ?_) (fun _ => ?_) <;> try contradiction)
      | (with_reducible refine Wp.bn (fun _ => ?_) (fun _ => ?_) <;> try contradiction)
      | (with_reducible refine Wp.br (fun _ => ?_) (fun _ => ?_) <;> try contradiction)
      | refine Wp.gik rfl (by assumption) (by with_reducible assumption) ?_
      | refine Wp.gi rfl (by assumption) ?_
      | refine Wp.gz rfl (by assumption) ?_
      | refine Wp.gr rfl (by assumption) (by assumption) ?_
      | refine Wp.gn rfl (by assumption) (by assumption) ?_
      | refine Wp.gl rfl (by assumption) ?_
      | refine Wp.addn rfl (by with_reducible rfl) (by with_reducible rfl) ?_
      | refine Wp.muln rfl (by with_reducible rfl) (by with_reducible rfl) ?_
      | refine Wp.subn rfl (by with_reducible rfl) (by with_reducible rfl) (by omega) ?_
      | (refine Wp.decn rfl rfl ?_; dsimp only [List.set])
      | (refine Wp.incn rfl rfl ?_; dsimp only [List.set])
      | (refine Wp.go rfl rfl ?_; try dsimp only [List.set])
      | refine Wp.pi rfl (by assumption) ?_
      | refine Wp.pr rfl (by assumption) ?_
      | refine Wp.pn rfl (by assumption) ?_
      | refine Wp.pl rfl (by assumption) ?_
      | refine Wp.aik rfl (by assumption) rfl (by first | with_reducible rfl | with_reducible assumption) (by omega) (by with_reducible assumption) ?_
      | refine Wp.aiN rfl (by assumption) rfl (by first | with_reducible rfl | with_reducible assumption) (by omega) ?_
      | refine Wp.siN rfl (by assumption) rfl (by first | with_reducible rfl | with_reducible assumption) (by omega) ?_
      | refine Wp.rt rfl rfl rfl rfl ?_
      | refine Wp.rz rfl rfl (by decide) ?_)
  · rename_i hc
    repeat' (first
      | (with_reducible refine Wp.lt (by omega) (by omega) (fun _ => ?_) (fun _ => ?_) <;> try (exfalso; omega))
      | (with_reducible refine Wp.le (by omega) (by omega) (fun _ => ?_) (fun _ => ?_) <;> try (exfalso; omega))
      | (with_reducible refine Wp.eq (by omega) (by omega) (fun _ => ?_) (fun _ => ?_) <;> try (exfalso; omega))
      | (with_reducible refine Wp.ne (by omega) (by omega) (fun _ => ?_) (fun _ => ?_) <;> try (exfalso; omega))
      | with_reducible refine Wp.lt0 (by omega) ?_
      | with_reducible refine Wp.ge0 (by omega) ?_
      | (with_reducible refine Wp.bz (fun _ => ?_) (fun _ => ?_) <;> try contradiction)
      | (with_reducible refine Wp.bn (fun _ => ?_) (fun _ => ?_) <;> try contradiction)
      | (with_reducible refine Wp.br (fun _ => ?_) (fun _ => ?_) <;> try contradiction)
      | refine Wp.gik rfl (by assumption) (by with_reducible assumption) ?_
      | refine Wp.gi rfl (by assumption) ?_
      | refine Wp.gz rfl (by assumption) ?_
      | refine Wp.gr rfl (by assumption) (by assumption) ?_
      | refine Wp.gn rfl (by assumption) (by assumption) ?_
      | refine Wp.gl rfl (by assumption) ?_
      | refine Wp.addn rfl (by with_reducible rfl) (by with_reducible rfl) ?_
      | refine Wp.muln rfl (by with_reducible rfl) (by with_reducible rfl) ?_
      | refine Wp.subn rfl (by with_reducible rfl) (by with_reducible rfl) (by omega) ?_
      | (refine Wp.decn rfl rfl ?_; dsimp only [List.set])
      | (refine Wp.incn rfl rfl ?_; dsimp only [List.set])
      | (refine Wp.go rfl rfl ?_; try dsimp only [List.set])
      | refine Wp.pi rfl (by assumption) ?_
      | refine Wp.pr rfl (by assumption) ?_
      | refine Wp.pn rfl (by assumption) ?_
      | refine Wp.pl rfl (by assumption) ?_
      | refine Wp.aik rfl (by assumption) rfl (by first | with_reducible rfl | with_reducible assumption) (by omega) (by with_reducible assumption) ?_
      | refine Wp.aiN rfl (by assumption) rfl (by first | with_reducible rfl | with_reducible assumption) (by omega) ?_
      | refine Wp.siN rfl (by assumption) rfl (by first | with_reducible rfl | with_reducible assumption) (by omega) ?_
      | refine Wp.rt rfl rfl rfl rfl ?_
      | refine Wp.rz rfl rfl (by decide) ?_)
    rw [hc]
    exact ⟨rfl, rfl⟩
  · rename_i hc
    repeat' (first
      | (with_reducible refine Wp.lt (by omega) (by omega) (fun _ => ?_) (fun _ => ?_) <;> try (exfalso; omega))
      | (with_reducible refine Wp.le (by omega) (by omega) (fun _ => ?_) (fun _ => ?_) <;> try (exfalso; omega))
      | (with_reducible refine Wp.eq (by omega) (by omega) (fun _ => ?_) (fun _ => ?_) <;> try (exfalso; omega))
      | (with_reducible refine Wp.ne (by omega) (by omega) (fun _ => ?_) (fun _ => ?_) <;> try (exfalso; omega))
      | with_reducible refine Wp.lt0 (by omega) ?_
      | with_reducible refine Wp.ge0 (by omega) ?_
      | (with_reducible refine Wp.bz (fun _ => ?_) (fun _ => ?_) <;> try contradiction)
      | (with_reducible refine Wp.bn (fun _ => ?_) (fun _ => ?_) <;> try contradiction)
      | (with_reducible refine Wp.br (fun _ => ?_) (fun _ => ?_) <;> try contradiction)
      | refine Wp.gik rfl (by assumption) (by with_reducible assumption) ?_
      | refine Wp.gi rfl (by assumption) ?_
      | refine Wp.gz rfl (by assumption) ?_
      | refine Wp.gr rfl (by assumption) (by assumption) ?_
      | refine Wp.gn rfl (by assumption) (by assumption) ?_
      | refine Wp.gl rfl (by assumption) ?_
      | refine Wp.addn rfl (by with_reducible rfl) (by with_reducible rfl) ?_
      | refine Wp.muln rfl (by with_reducible rfl) (by with_reducible rfl) ?_
      | refine Wp.subn rfl (by with_reducible rfl) (by with_reducible rfl) (by omega) ?_
      | (refine Wp.decn rfl rfl ?_; dsimp only [List.set])
      | (refine Wp.incn rfl rfl ?_; dsimp only [List.set])
      | (refine Wp.go rfl rfl ?_; try dsimp only [List.set])
      | refine Wp.pi rfl (by assumption) ?_
      | refine Wp.pr rfl (by assumption) ?_
      | refine Wp.pn rfl (by assumption) ?_
      | refine Wp.pl rfl (by assumption) ?_
      | refine Wp.aik rfl (by assumption) rfl (by first | with_reducible rfl | with_reducible assumption) (by omega) (by with_reducible assumption) ?_
      | refine Wp.aiN rfl (by assumption) rfl (by first | with_reducible rfl | with_reducible assumption) (by omega) ?_
      | refine Wp.siN rfl (by assumption) rfl (by first | with_reducible rfl | with_reducible assumption) (by omega) ?_
      | refine Wp.rt rfl rfl rfl rfl ?_
      | refine Wp.rz rfl rfl (by decide) ?_)
    rw [hc]
    exact ⟨rfl, rfl⟩
set_option maxHeartbeats 4000000 in
theorem k_lk_7 (d : Nat) (h : Rp M C) (hr : r < 5) : Ev (d + 8) 90 M [.ref 0, .int (nI r), .int (nI 7)] (fun M' w => M' = M ∧ w = some (.int (if c_cmpg C.1 (9 + 13 * r) = true then C.1 (9 + 13 * r + 6) 1 else nI 0))) := by
  obtain ⟨p1, p2, p3, p4, p5, p6⟩ := h.f hr
  obtain ⟨g1, g2, g3, g4, g5, g6, g7⟩ := h.g hr
  have hb : M.2.1 (9 + 13 * r + 6) 1 = C.1 (9 + 13 * r + 6) 1 := h.1 _ _ (by omega)
  refine k_lk0 d h hr (by decide) ?_
  show Wp (d + 7) 90 147 _ _ _ _
  iterate 1 (first
      | (with_reducible refine Wp.lt (by omega) (by omega) (fun _ => ?_) (fun _ => ?_) <;> try (exfalso; omega))
      | (with_reducible refine Wp.le (by omega) (by omega) (fun _ => ?_) (fun _ => ?_) <;> try (exfalso; omega))
      | (with_reducible refine Wp.eq (by omega) (by omega) (fun _ => ?_) (fun _ => ?_) <;> try (exfalso; omega))
      | (with_reducible refine Wp.ne (by omega) (by omega) (fun _ => ?_) (fun _ => ?_) <;> try (exfalso; omega))
      | with_reducible refine Wp.lt0 (by omega) ?_
      | with_reducible refine Wp.ge0 (by omega) ?_
      | (with_reducible refine Wp.bz (fun _ => ?_) (fun _ => ?_) <;> try contradiction)
      | (with_reducible refine Wp.bn (fun _ => ?_) (fun _ => ?_) <;> try contradiction)
      | (with_reducible refine Wp.br (fun _ => ?_) (fun _ => ?_) <;> try contradiction)
      | refine Wp.gik rfl (by assumption) (by with_reducible assumption) ?_
      | refine Wp.gi rfl (by assumption) ?_
      | refine Wp.gz rfl (by assumption) ?_
      | refine Wp.gr rfl (by assumption) (by assumption) ?_
      | refine Wp.gn rfl (by assumption) (by assumption) ?_
      | refine Wp.gl rfl (by assumption) ?_
      | refine Wp.addn rfl (by with_reducible rfl) (by with_reducible rfl) ?_
      | refine Wp.muln rfl (by with_reducible rfl) (by with_reducible rfl) ?_
      | refine Wp.subn rfl (by with_reducible rfl) (by with_reducible rfl) (by omega) ?_
      | (refine Wp.decn rfl rfl ?_; dsimp only [List.set])
      | (refine Wp.incn rfl rfl ?_; dsimp only [List.set])
      | (refine Wp.go rfl rfl ?_; try dsimp only [List.set])
      | refine Wp.pi rfl (by assumption) ?_
      | refine Wp.pr rfl (by assumption) ?_
      | refine Wp.pn rfl (by assumption) ?_
      | refine Wp.pl rfl (by assumption) ?_
      | refine Wp.aik rfl (by assumption) rfl (by first | with_reducible rfl | with_reducible assumption) (by omega) (by with_reducible assumption) ?_
      | refine Wp.aiN rfl (by assumption) rfl (by first | with_reducible rfl | with_reducible assumption) (by omega) ?_
      | refine Wp.siN rfl (by assumption) rfl (by first | with_reducible rfl | with_reducible assumption) (by omega) ?_
      | refine Wp.rt rfl rfl rfl rfl ?_
      | refine Wp.rz rfl rfl (by decide) ?_)
  refine Wp.V0i rfl p1 rfl (w_camps (d + 6) h hr) ?_
  iterate 2 (first
      | (with_reducible refine Wp.lt (by omega) (by omega) (fun _ => ?_) (fun _ => ?_) <;> try (exfalso; omega))
      | (with_reducible refine Wp.le (by omega) (by omega) (fun _ => ?_) (fun _ => ?_) <;> try (exfalso; omega))
      | (with_reducible refine Wp.eq (by omega) (by omega) (fun _ => ?_) (fun _ => ?_) <;> try (exfalso; omega))
      | (with_reducible refine Wp.ne (by omega) (by omega) (fun _ => ?_) (fun _ => ?_) <;> try (exfalso; omega))
      | with_reducible refine Wp.lt0 (by omega) ?_
      | with_reducible refine Wp.ge0 (by omega) ?_
      | (with_reducible refine Wp.bz (fun _ => ?_) (fun _ => ?_) <;> try contradiction)
      | (with_reducible refine Wp.bn (fun _ => ?_) (fun _ => ?_) <;> try contradiction)
      | (with_reducible refine Wp.br (fun _ => ?_) (fun _ => ?_) <;> try contradiction)
      | refine Wp.gik rfl (by assumption) (by with_reducible assumption) ?_
      | refine Wp.gi rfl (by assumption) ?_
      | refine Wp.gz rfl (by assumption) ?_
      | refine Wp.gr rfl (by assumption) (by assumption) ?_
      | refine Wp.gn rfl (by assumption) (by assumption) ?_
      | refine Wp.gl rfl (by assumption) ?_
      | refine Wp.addn rfl (by with_reducible rfl) (by with_reducible rfl) ?_
      | refine Wp.muln rfl (by with_reducible rfl) (by with_reducible rfl) ?_
      | refine Wp.subn rfl (by with_reducible rfl) (by with_reducible rfl) (by omega) ?_
      | (refine Wp.decn rfl rfl ?_; dsimp only [List.set])
      | (refine Wp.incn rfl rfl ?_; dsimp only [List.set])
      | (refine Wp.go rfl rfl ?_; try dsimp only [List.set])
      | refine Wp.pi rfl (by assumption) ?_
      | refine Wp.pr rfl (by assumption) ?_
      | refine Wp.pn rfl (by assumption) ?_
      | refine Wp.pl rfl (by assumption) ?_
      | refine Wp.aik rfl (by assumption) rfl (by first | with_reducible rfl | with_reducible assumption) (by omega) (by with_reducible assumption) ?_
      | refine Wp.aiN rfl (by assumption) rfl (by first | with_reducible rfl | with_reducible assumption) (by omega) ?_
      | refine Wp.siN rfl (by assumption) rfl (by first | with_reducible rfl | with_reducible assumption) (by omega) ?_
      | refine Wp.rt rfl rfl rfl rfl ?_
      | refine Wp.rz rfl rfl (by decide) ?_)
  · rename_i hc
    repeat' (first
      | (with_reducible refine Wp.lt (by omega) (by omega) (fun _ => ?_) (fun _ => ?_) <;> try (exfalso; omega))
      | (with_reducible refine Wp.le (by omega) (by omega) (fun _ => ?_) (fun _ => ?_) <;> try (exfalso; omega))
      | (with_reducible refine Wp.eq (by omega) (by omega) (fun _ => ?_) (fun _ => ?_) <;> try (exfalso; omega))
      | (with_reducible refine Wp.ne (by omega) (by omega) (fun _ => ?_) (fun _ => ?_) <;> try (exfalso; omega))
      | with_reducible refine Wp.lt0 (by omega) ?_
      | with_reducible refine Wp.ge0 (by omega) ?_
      | (with_reducible refine Wp.bz (fun _ => ?_) (fun _ => ?_) <;> try contradiction)
      | (with_reducible refine Wp.bn (fun _ => ?_) (fun _ => ?_) <;> try contradiction)
      | (with_reducible refine Wp.br (fun _ => ?_) (fun _ => ?_) <;> try contradiction)
      | refine Wp.gik rfl (by assumption) (by with_reducible assumption) ?_
      | refine Wp.gi rfl (by assumption) ?_
      | refine Wp.gz rfl (by assumption) ?_
      | refine Wp.gr rfl (by assumption) (by assumption) ?_
      | refine Wp.gn rfl (by assumption) (by assumption) ?_
      | refine Wp.gl rfl (by assumption) ?_
      | refine Wp.addn rfl (by with_reducible rfl) (by with_reducible rfl) ?_
      | refine Wp.muln rfl (by with_reducible rfl) (by with_reducible rfl) ?_
      | refine Wp.subn rfl (by with_reducible rfl) (by with_reducible rfl) (by omega) ?_
      | (refine Wp.decn rfl rfl ?_; dsimp only [List.set])
      | (refine Wp.incn rfl rfl ?_; dsimp only [List.set])
      | (refine Wp.go rfl rfl ?_; try dsimp only [List.set])
      | refine Wp.pi rfl (by assumption) ?_
      | refine Wp.pr rfl (by assumption) ?_
      | refine Wp.pn rfl (by assumption) ?_
      | refine Wp.pl rfl (by assumption) ?_
      | refine Wp.aik rfl (by assumption) rfl (by first | with_reducible rfl | with_reducible assumption) (by omega) (by with_reducible assumption) ?_
      | refine Wp.aiN rfl (by assumption) rfl (by first | with_reducible rfl | with_reducible assumption) (by omega) ?_
      | refine Wp.siN rfl (by assumption) rfl (by first | with_reducible rfl | with_reducible assumption) (by omega) ?_
      | refine Wp.rt rfl rfl rfl rfl ?_
      | refine Wp.rz rfl rfl (by decide) ?_)
    rw [hc]
    exact ⟨rfl, rfl⟩
  · rename_i hc
    repeat' (first
      | (with_reducible refine Wp.lt (by omega) (by omega) (fun _ => ?_) (fun _ => ?_) <;> try (exfalso; omega))
      | (with_reducible refine Wp.le (by omega) (by omega) (fun _ => ?_) (fun _ => ?_) <;> try (exfalso; omega))
      | (with_reducible refine Wp.eq (by omega) (by omega) (fun _ => ?_) (fun _ => ?_) <;> try (exfalso; omega))
      | (with_reducible refine Wp.ne (by omega) (by omega) (fun _ => ?_) (fun _ => ?_) <;> try (exfalso; omega))
      | with_reducible refine Wp.lt0 (by omega) ?_
      | with_reducible refine Wp.ge0 (by omega) ?_
      | (with_reducible refine Wp.bz (fun _ => ?_) (fun _ => ?_) <;> try contradiction)
      | (with_reducible refine Wp.bn (fun _ => ?_) (fun _ => ?_) <;> try contradiction)
      | (with_reducible refine Wp.br (fun _ => ?_) (fun _ => ?_) <;> try contradiction)
      | refine Wp.gik rfl (by assumption) (by with_reducible assumption) ?_
      | refine Wp.gi rfl (by assumption) ?_
      | refine Wp.gz rfl (by assumption) ?_
      | refine Wp.gr rfl (by assumption) (by assumption) ?_
      | refine Wp.gn rfl (by assumption) (by assumption) ?_
      | refine Wp.gl rfl (by assumption) ?_
      | refine Wp.addn rfl (by with_reducible rfl) (by with_reducible rfl) ?_
      | refine Wp.muln rfl (by with_reducible rfl) (by with_reducible rfl) ?_
      | refine Wp.subn rfl (by with_reducible rfl) (by with_reducible rfl) (by omega) ?_
      | (refine Wp.decn rfl rfl ?_; dsimp only [List.set])
      | (refine Wp.incn rfl rfl ?_; dsimp only [List.set])
      | (refine Wp.go rfl rfl ?_; try dsimp only [List.set])
      | refine Wp.pi rfl (by assumption) ?_
      | refine Wp.pr rfl (by assumption) ?_
      | refine Wp.pn rfl (by assumption) ?_
      | refine Wp.pl rfl (by assumption) ?_
      | refine Wp.aik rfl (by assumption) rfl (by first | with_reducible rfl | with_reducible assumption) (by omega) (by with_reducible assumption) ?_
      | refine Wp.aiN rfl (by assumption) rfl (by first | with_reducible rfl | with_reducible assumption) (by omega) ?_
      | refine Wp.siN rfl (by assumption) rfl (by first | with_reducible rfl | with_reducible assumption) (by omega) ?_
      | refine Wp.rt rfl rfl rfl rfl ?_
      | refine Wp.rz rfl rfl (by decide) ?_)
    rw [hc]
    exact ⟨rfl, rfl⟩
set_option maxHeartbeats 4000000 in
theorem k_lk_5 (d : Nat) (h : Rp M C) (hr : r < 5) : Ev (d + 8) 90 M [.ref 0, .int (nI r), .int (nI 5)] (fun M' w => M' = M ∧ w = some (.int (bI (c_cmpg C.1 (9 + 13 * r) && c_sp C r (sl (C.2.1 r) + 1))))) := by
  obtain ⟨p1, p2, p3, p4, p5, p6⟩ := h.f hr
  refine k_lk0 d h hr (by decide) ?_
  show Wp (d + 7) 90 117 _ _ _ _
  iterate 1 (first
      | (with_reducible refine Wp.lt (by omega) (by omega) (fun _ => ?_) (fun _ => ?_) <;> try (exfalso; omega))
      | (with_reducible refine Wp.le (by omega) (by omega) (fun _ => ?_) (fun _ => ?_) <;> try (exfalso; omega))
      | (with_reducible refine Wp.eq (by omega) (by omega) (fun _ => ?_) (fun _ => ?_) <;> try (exfalso; omega))
      | (with_reducible refine Wp.ne (by omega) (by omega) (fun _ => ?_) (fun _ => ?_) <;> try (exfalso; omega))
      | with_reducible refine Wp.lt0 (by omega) ?_
      | with_reducible refine Wp.ge0 (by omega) ?_
      | (with_reducible refine Wp.bz (fun _ => ?_) (fun _ => ?_) <;> try contradiction)
      | (with_reducible refine Wp.bn (fun _ => ?_) (fun _ => ?_) <;> try contradiction)
      | (with_reducible refine Wp.br (fun _ => ?_) (fun _ => ?_) <;> try contradiction)
      | refine Wp.gik rfl (by assumption) (by with_reducible assumption) ?_
      | refine Wp.gi rfl (by assumption) ?_
      | refine Wp.gz rfl (by assumption) ?_
      | refine Wp.gr rfl (by assumption) (by assumption) ?_
      | refine Wp.gn rfl (by assumption) (by assumption) ?_
      | refine Wp.gl rfl (by assumption) ?_
      | refine Wp.addn rfl (by with_reducible rfl) (by with_reducible rfl) ?_
      | refine Wp.muln rfl (by with_reducible rfl) (by with_reducible rfl) ?_
      | refine Wp.subn rfl (by with_reducible rfl) (by with_reducible rfl) (by omega) ?_
      | (refine Wp.decn rfl rfl ?_; dsimp only [List.set])
      | (refine Wp.incn rfl rfl ?_; dsimp only [List.set])
      | (refine Wp.go rfl rfl ?_; try dsimp only [List.set])
      | refine Wp.pi rfl (by assumption) ?_
      | refine Wp.pr rfl (by assumption) ?_
      | refine Wp.pn rfl (by assumption) ?_
      | refine Wp.pl rfl (by assumption) ?_
      | refine Wp.aik rfl (by assumption) rfl (by first | with_reducible rfl | with_reducible assumption) (by omega) (by with_reducible assumption) ?_
      | refine Wp.aiN rfl (by assumption) rfl (by first | with_reducible rfl | with_reducible assumption) (by omega) ?_
      | refine Wp.siN rfl (by assumption) rfl (by first | with_reducible rfl | with_reducible assumption) (by omega) ?_
      | refine Wp.rt rfl rfl rfl rfl ?_
      | refine Wp.rz rfl rfl (by decide) ?_)
  refine Wp.V0i rfl p1 rfl (w_leads (d + 3) h hr) ?_
  iterate 2 (first
      | (with_reducible refine Wp.lt (by omega) (by omega) (fun _ => ?_) (fun _ => ?_) <;> try (exfalso; omega))
      | (with_reducible refine Wp.le (by omega) (by omega) (fun _ => ?_) (fun _ => ?_) <;> try (exfalso; omega))
      | (with_reducible refine Wp.eq (by omega) (by omega) (fun _ => ?_) (fun _ => ?_) <;> try (exfalso; omega))
      | (with_reducible refine Wp.ne (by omega) (by omega) (fun _ => ?_) (fun _ => ?_) <;> try (exfalso; omega))
      | with_reducible refine Wp.lt0 (by omega) ?_
      | with_reducible refine Wp.ge0 (by omega) ?_
      | (with_reducible refine Wp.bz (fun _ => ?_) (fun _ => ?_) <;> try contradiction)
      | (with_reducible refine Wp.bn (fun _ => ?_) (fun _ => ?_) <;> try contradiction)
      | (with_reducible refine Wp.br (fun _ => ?_) (fun _ => ?_) <;> try contradiction)
      | refine Wp.gik rfl (by assumption) (by with_reducible assumption) ?_
      | refine Wp.gi rfl (by assumption) ?_
      | refine Wp.gz rfl (by assumption) ?_
      | refine Wp.gr rfl (by assumption) (by assumption) ?_
      | refine Wp.gn rfl (by assumption) (by assumption) ?_
      | refine Wp.gl rfl (by assumption) ?_
      | refine Wp.addn rfl (by with_reducible rfl) (by with_reducible rfl) ?_
      | refine Wp.muln rfl (by with_reducible rfl) (by with_reducible rfl) ?_
      | refine Wp.subn rfl (by with_reducible rfl) (by with_reducible rfl) (by omega) ?_
      | (refine Wp.decn rfl rfl ?_; dsimp only [List.set])
      | (refine Wp.incn rfl rfl ?_; dsimp only [List.set])
      | (refine Wp.go rfl rfl ?_; try dsimp only [List.set])
      | refine Wp.pi rfl (by assumption) ?_
      | refine Wp.pr rfl (by assumption) ?_
      | refine Wp.pn rfl (by assumption) ?_
      | refine Wp.pl rfl (by assumption) ?_
      | refine Wp.aik rfl (by assumption) rfl (by first | with_reducible rfl | with_reducible assumption) (by omega) (by with_reducible assumption) ?_
      | refine Wp.aiN rfl (by assumption) rfl (by first | with_reducible rfl | with_reducible assumption) (by omega) ?_
      | refine Wp.siN rfl (by assumption) rfl (by first | with_reducible rfl | with_reducible assumption) (by omega) ?_
      | refine Wp.rt rfl rfl rfl rfl ?_
      | refine Wp.rz rfl rfl (by decide) ?_)
  · rename_i hc
    repeat' (first
      | (with_reducible refine Wp.lt (by omega) (by omega) (fun _ => ?_) (fun _ => ?_) <;> try (exfalso; omega))
      | (with_reducible refine Wp.le (by omega) (by omega) (fun _ => ?_) (fun _ => ?_) <;> try (exfalso; omega))
      | (with_reducible refine Wp.eq (by omega) (by omega) (fun _ => ?_) (fun _ => ?_) <;> try (exfalso; omega))
      | (with_reducible refine Wp.ne (by omega) (by omega) (fun _ => ?_) (fun _ => ?_) <;> try (exfalso; omega))
      | with_reducible refine Wp.lt0 (by omega) ?_
      | with_reducible refine Wp.ge0 (by omega) ?_
      | (with_reducible refine Wp.bz (fun _ => ?_) (fun _ => ?_) <;> try contradiction)
      | (with_reducible refine Wp.bn (fun _ => ?_) (fun _ => ?_) <;> try contradiction)
      | (with_reducible refine Wp.br (fun _ => ?_) (fun _ => ?_) <;> try contradiction)
      | refine Wp.gik rfl (by assumption) (by with_reducible assumption) ?_
      | refine Wp.gi rfl (by assumption) ?_
      | refine Wp.gz rfl (by assumption) ?_
      | refine Wp.gr rfl (by assumption) (by assumption) ?_
      | refine Wp.gn rfl (by assumption) (by assumption) ?_
      | refine Wp.gl rfl (by assumption) ?_
      | refine Wp.addn rfl (by with_reducible rfl) (by with_reducible rfl) ?_
      | refine Wp.muln rfl (by with_reducible rfl) (by with_reducible rfl) ?_
      | refine Wp.subn rfl (by with_reducible rfl) (by with_reducible rfl) (by omega) ?_
      | (refine Wp.decn rfl rfl ?_; dsimp only [List.set])
      | (refine Wp.incn rfl rfl ?_; dsimp only [List.set])
      | (refine Wp.go rfl rfl ?_; try dsimp only [List.set])
      | refine Wp.pi rfl (by assumption) ?_
      | refine Wp.pr rfl (by assumption) ?_
      | refine Wp.pn rfl (by assumption) ?_
      | refine Wp.pl rfl (by assumption) ?_
      | refine Wp.aik rfl (by assumption) rfl (by first | with_reducible rfl | with_reducible assumption) (by omega) (by with_reducible assumption) ?_
      | refine Wp.aiN rfl (by assumption) rfl (by first | with_reducible rfl | with_reducible assumption) (by omega) ?_
      | refine Wp.siN rfl (by assumption) rfl (by first | with_reducible rfl | with_reducible assumption) (by omega) ?_
      | refine Wp.rt rfl rfl rfl rfl ?_
      | refine Wp.rz rfl rfl (by decide) ?_)
    rw [hc]
    exact ⟨rfl, rfl⟩
  · rename_i hc
    repeat' (first
      | (with_reducible refine Wp.lt (by omega) (by omega) (fun _ => ?_) (fun _ => ?_) <;> try (exfalso; omega))
      | (with_reducible refine Wp.le (by omega) (by omega) (fun _ => ?_) (fun _ => ?_) <;> try (exfalso; omega))
      | (with_reducible refine Wp.eq (by omega) (by omega) (fun _ => ?_) (fun _ => ?_) <;> try (exfalso; omega))
      | (with_reducible refine Wp.ne (by omega) (by omega) (fun _ => ?_) (fun _ => ?_) <;> try (exfalso; omega))
      | with_reducible refine Wp.lt0 (by omega) ?_
      | with_reducible refine Wp.ge0 (by omega) ?_
      | (with_reducible refine Wp.bz (fun _ => ?_) (fun _ => ?_) <;> try contradiction)
      | (with_reducible refine Wp.bn (fun _ => ?_) (fun _ => ?_) <;> try contradiction)
      | (with_reducible refine Wp.br (fun _ => ?_) (fun _ => ?_) <;> try contradiction)
      | refine Wp.gik rfl (by assumption) (by with_reducible assumption) ?_
      | refine Wp.gi rfl (by assumption) ?_
      | refine Wp.gz rfl (by assumption) ?_
      | refine Wp.gr rfl (by assumption) (by assumption) ?_
      | refine Wp.gn rfl (by assumption) (by assumption) ?_
      | refine Wp.gl rfl (by assumption) ?_
      | refine Wp.addn rfl (by with_reducible rfl) (by with_reducible rfl) ?_
      | refine Wp.muln rfl (by with_reducible rfl) (by with_reducible rfl) ?_
      | refine Wp.subn rfl (by with_reducible rfl) (by with_reducible rfl) (by omega) ?_
      | (refine Wp.decn rfl rfl ?_; dsimp only [List.set])
      | (refine Wp.incn rfl rfl ?_; dsimp only [List.set])
      | (refine Wp.go rfl rfl ?_; try dsimp only [List.set])
      | refine Wp.pi rfl (by assumption) ?_
      | refine Wp.pr rfl (by assumption) ?_
      | refine Wp.pn rfl (by assumption) ?_
      | refine Wp.pl rfl (by assumption) ?_
      | refine Wp.aik rfl (by assumption) rfl (by first | with_reducible rfl | with_reducible assumption) (by omega) (by with_reducible assumption) ?_
      | refine Wp.aiN rfl (by assumption) rfl (by first | with_reducible rfl | with_reducible assumption) (by omega) ?_
      | refine Wp.siN rfl (by assumption) rfl (by first | with_reducible rfl | with_reducible assumption) (by omega) ?_
      | refine Wp.rt rfl rfl rfl rfl ?_
      | refine Wp.rz rfl rfl (by decide) ?_)
    rw [hc]
    exact ⟨rfl, rfl⟩
set_option maxHeartbeats 4000000 in
theorem k_lk_6 (d : Nat) (h : Rp M C) (hr : r < 5) : Ev (d + 8) 90 M [.ref 0, .int (nI r), .int (nI 6)] (fun M' w => M' = M ∧ w = some (.int (s_mo (C.2.1 r) (sl (C.2.1 r) + 1)))) := by
  obtain ⟨p1, p2, p3, p4, p5, p6⟩ := h.f hr
  obtain ⟨t, t1, t2⟩ := h.hp hr
  obtain ⟨e1, e2, e3⟩ := t2.f
  refine k_lk0 d h hr (by decide) ?_
  show Wp (d + 7) 90 130 _ _ _ _
  repeat' ((with_reducible fail_if_success show Wp _ _ 143 _ _ _ _); (first
      | (with_reducible refine Wp.lt (by omega) (by omega) (fun _ => ?_) (fun _ => ?_) <;> try (exfalso; omega))
      | (with_reducible refine Wp.le (by omega) (by omega) (fun _ => ?_) (fun _ => ?_) <;> try (exfalso; omega))
      | (with_reducible refine Wp.eq (by omega) (by omega) (fun _ => ?_) (fun _ => ?_) <;> try (exfalso; omega))
      | (with_reducible refine Wp.ne (by omega) (by omega) (fun _ => ?_) (fun _ => ?_) <;> try (exfalso; omega))
      | with_reducible refine Wp.lt0 (by omega) ?_
      | with_reducible refine Wp.ge0 (by omega) ?_
      | (with_reducible refine Wp.bz (fun _ => ?_) (fun _ => ?_) <;> try contradiction)
      | (with_reducible refine Wp.bn (fun _ => ?_) (fun _ => ?_) <;> try contradiction)
      | (with_reducible refine Wp.br (fun _ => ?_) (fun _ => ?_) <;> try contradiction)
      | refine Wp.gik rfl (by assumption) (by with_reducible assumption) ?_
      | refine Wp.gi rfl (by assumption) ?_
      | refine Wp.gz rfl (by assumption) ?_
      | refine Wp.gr rfl (by assumption) (by assumption) ?_
      | refine Wp.gn rfl (by assumption) (by assumption) ?_
      | refine Wp.gl rfl (by assumption) ?_
      | refine Wp.addn rfl (by with_reducible rfl) (by with_reducible rfl) ?_
      | refine Wp.muln rfl (by with_reducible rfl) (by with_reducible rfl) ?_
      | refine Wp.subn rfl (by with_reducible rfl) (by with_reducible rfl) (by omega) ?_
      | (refine Wp.decn rfl rfl ?_; dsimp only [List.set])
      | (refine Wp.incn rfl rfl ?_; dsimp only [List.set])
      | (refine Wp.go rfl rfl ?_; try dsimp only [List.set])
      | refine Wp.pi rfl (by assumption) ?_
      | refine Wp.pr rfl (by assumption) ?_
      | refine Wp.pn rfl (by assumption) ?_
      | refine Wp.pl rfl (by assumption) ?_
      | refine Wp.aik rfl (by assumption) rfl (by first | with_reducible rfl | with_reducible assumption) (by omega) (by with_reducible assumption) ?_
      | refine Wp.aiN rfl (by assumption) rfl (by first | with_reducible rfl | with_reducible assumption) (by omega) ?_
      | refine Wp.siN rfl (by assumption) rfl (by first | with_reducible rfl | with_reducible assumption) (by omega) ?_
      | refine Wp.rt rfl rfl rfl rfl ?_
      | refine Wp.rz rfl rfl (by decide) ?_))
  refine Wp.V1i rfl e1 rfl (w_memb (d + 6) t2 (by omega) (by omega)) ?_
  repeat' (first
      | (with_reducible refine Wp.lt (by omega) (by omega) (fun _ => ?_) (fun _ => ?_) <;> try (exfalso; omega))
      | (with_reducible refine Wp.le (by omega) (by omega) (fun _ => ?_) (fun _ => ?_) <;> try (exfalso; omega))
      | (with_reducible refine Wp.eq (by omega) (by omega) (fun _ => ?_) (fun _ => ?_) <;> try (exfalso; omega))
      | (with_reducible refine Wp.ne (by omega) (by omega) (fun _ => ?_) (fun _ => ?_) <;> try (exfalso; omega))
      | with_reducible refine Wp.lt0 (by omega) ?_
      | with_reducible refine Wp.ge0 (by omega) ?_
      | (with_reducible refine Wp.bz (fun _ => ?_) (fun _ => ?_) <;> try contradiction)
      | (with_reducible refine Wp.bn (fun _ => ?_) (fun _ => ?_) <;> try contradiction)
      | (with_reducible refine Wp.br (fun _ => ?_) (fun _ => ?_) <;> try contradiction)
      | refine Wp.gik rfl (by assumption) (by with_reducible assumption) ?_
      | refine Wp.gi rfl (by assumption) ?_
      | refine Wp.gz rfl (by assumption) ?_
      | refine Wp.gr rfl (by assumption) (by assumption) ?_
      | refine Wp.gn rfl (by assumption) (by assumption) ?_
      | refine Wp.gl rfl (by assumption) ?_
      | refine Wp.addn rfl (by with_reducible rfl) (by with_reducible rfl) ?_
      | refine Wp.muln rfl (by with_reducible rfl) (by with_reducible rfl) ?_
      | refine Wp.subn rfl (by with_reducible rfl) (by with_reducible rfl) (by omega) ?_
      | (refine Wp.decn rfl rfl ?_; dsimp only [List.set])
      | (refine Wp.incn rfl rfl ?_; dsimp only [List.set])
      | (refine Wp.go rfl rfl ?_; try dsimp only [List.set])
      | refine Wp.pi rfl (by assumption) ?_
      | refine Wp.pr rfl (by assumption) ?_
      | refine Wp.pn rfl (by assumption) ?_
      | refine Wp.pl rfl (by assumption) ?_
      | refine Wp.aik rfl (by assumption) rfl (by first | with_reducible rfl | with_reducible assumption) (by omega) (by with_reducible assumption) ?_
      | refine Wp.aiN rfl (by assumption) rfl (by first | with_reducible rfl | with_reducible assumption) (by omega) ?_
      | refine Wp.siN rfl (by assumption) rfl (by first | with_reducible rfl | with_reducible assumption) (by omega) ?_
      | refine Wp.rt rfl rfl rfl rfl ?_
      | refine Wp.rz rfl rfl (by decide) ?_)
  exact ⟨rfl, rfl⟩
set_option maxHeartbeats 4000000 in
theorem k_val (d : Nat) {ky : Nat} (h : Rp M C) (hr : r < 5) (hk : ky < 4) : Ev (d + 8) 91 M [.ref 0, .int (nI r), .int (nI ky)] (fun M' w => M' = M ∧ w = some (.int ((C.2.1 r).1 1 ky))) := by
  obtain ⟨m1, m2, m3, m4, m5, m6, m7, m8⟩ := h.hm
  obtain ⟨p1, p2, p3, p4, p5, p6⟩ := h.f hr
  obtain ⟨t, t1, t2⟩ := h.hp hr
  have e1 : M.1[t]? = some (false, 7, 7) := t2.2.1.1
  have e2 : M.2.2.2 t 1 = some (t + 1) := t2.2.1.2.1
  have e3 : M.1[t + 1]? = some (true, 0, 4) := t2.2.1.2.2.2.1
  have e4 : M.2.1 (t + 1) ky = (C.2.1 r).1 1 ky := t2.2.2.1 1 ky (by decide) (by omega)
  refine Ev.of (ls := [some (.ref 0), some (.int (nI r)), some (.int (nI ky))]) rfl rfl ?_
  repeat' ((with_reducible fail_if_success show Wp _ _ 1 _ _ _ _); (first
      | (with_reducible refine Wp.lt (by omega) (by omega) (fun _ => ?_) (fun _ => ?_) <;> try (exfalso; omega))
      | (with_reducible refine Wp.le (by omega) (by omega) (fun _ => ?_) (fun _ => ?_) <;> try (exfalso; omega))
      | (with_reducible refine Wp.eq (by omega) (by omega) (fun _ => ?_) (fun _ => ?_) <;> try (exfalso; omega))
      | (with_reducible refine Wp.ne (by omega) (by omega) (fun _ => ?_) (fun _ => ?_) <;> try (exfalso; omega))
      | with_reducible refine Wp.lt0 (by omega) ?_
      | with_reducible refine Wp.ge0 (by omega) ?_
      | (with_reducible refine Wp.bz (fun _ => ?_) (fun _ => ?_) <;> try contradiction)
      | (with_reducible refine Wp.bn (fun _ => ?_) (fun _ => ?_) <;> try contradiction)
      | (with_reducible refine Wp.br (fun _ => ?_) (fun _ => ?_) <;> try contradiction)
      | refine Wp.gik rfl (by assumption) (by with_reducible assumption) ?_
      | refine Wp.gi rfl (by assumption) ?_
      | refine Wp.gz rfl (by assumption) ?_
      | refine Wp.gr rfl (by assumption) (by assumption) ?_
      | refine Wp.gn rfl (by assumption) (by assumption) ?_
      | refine Wp.gl rfl (by assumption) ?_
      | refine Wp.addn rfl (by with_reducible rfl) (by with_reducible rfl) ?_
      | refine Wp.muln rfl (by with_reducible rfl) (by with_reducible rfl) ?_
      | refine Wp.subn rfl (by with_reducible rfl) (by with_reducible rfl) (by omega) ?_
      | (refine Wp.decn rfl rfl ?_; dsimp only [List.set])
      | (refine Wp.incn rfl rfl ?_; dsimp only [List.set])
      | (refine Wp.go rfl rfl ?_; try dsimp only [List.set])
      | refine Wp.pi rfl (by assumption) ?_
      | refine Wp.pr rfl (by assumption) ?_
      | refine Wp.pn rfl (by assumption) ?_
      | refine Wp.pl rfl (by assumption) ?_
      | refine Wp.aik rfl (by assumption) rfl (by first | with_reducible rfl | with_reducible assumption) (by omega) (by with_reducible assumption) ?_
      | refine Wp.aiN rfl (by assumption) rfl (by first | with_reducible rfl | with_reducible assumption) (by omega) ?_
      | refine Wp.siN rfl (by assumption) rfl (by first | with_reducible rfl | with_reducible assumption) (by omega) ?_
      | refine Wp.rt rfl rfl rfl rfl ?_
      | refine Wp.rz rfl rfl (by decide) ?_))
  refine Wp.S1i rfl rfl (k_isRep (d + 6) M.2.1 (Z := zO M) (nI r)).ev0 ?_
  rw [f_rep_n hr]
  repeat' ((with_reducible fail_if_success show Wp _ _ 23 _ _ _ _); (first
      | (with_reducible refine Wp.lt (by omega) (by omega) (fun _ => ?_) (fun _ => ?_) <;> try (exfalso; omega))
      | (with_reducible refine Wp.le (by omega) (by omega) (fun _ => ?_) (fun _ => ?_) <;> try (exfalso; omega))
      | (with_reducible refine Wp.eq (by omega) (by omega) (fun _ => ?_) (fun _ => ?_) <;> try (exfalso; omega))
      | (with_reducible refine Wp.ne (by omega) (by omega) (fun _ => ?_) (fun _ => ?_) <;> try (exfalso; omega))
      | with_reducible refine Wp.lt0 (by omega) ?_
      | with_reducible refine Wp.ge0 (by omega) ?_
      | (with_reducible refine Wp.bz (fun _ => ?_) (fun _ => ?_) <;> try contradiction)
      | (with_reducible refine Wp.bn (fun _ => ?_) (fun _ => ?_) <;> try contradiction)
      | (with_reducible refine Wp.br (fun _ => ?_) (fun _ => ?_) <;> try contradiction)
      | refine Wp.gik rfl (by assumption) (by with_reducible assumption) ?_
      | refine Wp.gi rfl (by assumption) ?_
      | refine Wp.gz rfl (by assumption) ?_
      | refine Wp.gr rfl (by assumption) (by assumption) ?_
      | refine Wp.gn rfl (by assumption) (by assumption) ?_
      | refine Wp.gl rfl (by assumption) ?_
      | refine Wp.addn rfl (by with_reducible rfl) (by with_reducible rfl) ?_
      | refine Wp.muln rfl (by with_reducible rfl) (by with_reducible rfl) ?_
      | refine Wp.subn rfl (by with_reducible rfl) (by with_reducible rfl) (by omega) ?_
      | (refine Wp.decn rfl rfl ?_; dsimp only [List.set])
      | (refine Wp.incn rfl rfl ?_; dsimp only [List.set])
      | (refine Wp.go rfl rfl ?_; try dsimp only [List.set])
      | refine Wp.pi rfl (by assumption) ?_
      | refine Wp.pr rfl (by assumption) ?_
      | refine Wp.pn rfl (by assumption) ?_
      | refine Wp.pl rfl (by assumption) ?_
      | refine Wp.aik rfl (by assumption) rfl (by first | with_reducible rfl | with_reducible assumption) (by omega) (by with_reducible assumption) ?_
      | refine Wp.aiN rfl (by assumption) rfl (by first | with_reducible rfl | with_reducible assumption) (by omega) ?_
      | refine Wp.siN rfl (by assumption) rfl (by first | with_reducible rfl | with_reducible assumption) (by omega) ?_
      | refine Wp.rt rfl rfl rfl rfl ?_
      | refine Wp.rz rfl rfl (by decide) ?_))
  refine Wp.aq rfl m5 (by decide) hr (by decide) (m6 r hr) ?_
  repeat' (first
      | (with_reducible refine Wp.lt (by omega) (by omega) (fun _ => ?_) (fun _ => ?_) <;> try (exfalso; omega))
      | (with_reducible refine Wp.le (by omega) (by omega) (fun _ => ?_) (fun _ => ?_) <;> try (exfalso; omega))
      | (with_reducible refine Wp.eq (by omega) (by omega) (fun _ => ?_) (fun _ => ?_) <;> try (exfalso; omega))
      | (with_reducible refine Wp.ne (by omega) (by omega) (fun _ => ?_) (fun _ => ?_) <;> try (exfalso; omega))
      | with_reducible refine Wp.lt0 (by omega) ?_
      | with_reducible refine Wp.ge0 (by omega) ?_
      | (with_reducible refine Wp.bz (fun _ => ?_) (fun _ => ?_) <;> try contradiction)
      | (with_reducible refine Wp.bn (fun _ => ?_) (fun _ => ?_) <;> try contradiction)
      | (with_reducible refine Wp.br (fun _ => ?_) (fun _ => ?_) <;> try contradiction)
      | refine Wp.gik rfl (by assumption) (by with_reducible assumption) ?_
      | refine Wp.gi rfl (by assumption) ?_
      | refine Wp.gz rfl (by assumption) ?_
      | refine Wp.gr rfl (by assumption) (by assumption) ?_
      | refine Wp.gn rfl (by assumption) (by assumption) ?_
      | refine Wp.gl rfl (by assumption) ?_
      | refine Wp.addn rfl (by with_reducible rfl) (by with_reducible rfl) ?_
      | refine Wp.muln rfl (by with_reducible rfl) (by with_reducible rfl) ?_
      | refine Wp.subn rfl (by with_reducible rfl) (by with_reducible rfl) (by omega) ?_
      | (refine Wp.decn rfl rfl ?_; dsimp only [List.set])
      | (refine Wp.incn rfl rfl ?_; dsimp only [List.set])
      | (refine Wp.go rfl rfl ?_; try dsimp only [List.set])
      | refine Wp.pi rfl (by assumption) ?_
      | refine Wp.pr rfl (by assumption) ?_
      | refine Wp.pn rfl (by assumption) ?_
      | refine Wp.pl rfl (by assumption) ?_
      | refine Wp.aik rfl (by assumption) rfl (by first | with_reducible rfl | with_reducible assumption) (by omega) (by with_reducible assumption) ?_
      | refine Wp.aiN rfl (by assumption) rfl (by first | with_reducible rfl | with_reducible assumption) (by omega) ?_
      | refine Wp.siN rfl (by assumption) rfl (by first | with_reducible rfl | with_reducible assumption) (by omega) ?_
      | refine Wp.rt rfl rfl rfl rfl ?_
      | refine Wp.rz rfl rfl (by decide) ?_)
  exact ⟨rfl, rfl⟩
set_option maxHeartbeats 4000000 in
theorem k_val_n (d : Nat) {x y : Int32} (h : Rp M C) (hx : f_rep x = false ∨ y < 0 ∨ nI 3 < y) : Ev (d + 8) 91 M [.ref 0, .int x, .int y] (fun M' w => M' = M ∧ w = some (.int (nI 0))) := by
  refine Ev.of (ls := [some (.ref 0), some (.int x), some (.int y)]) rfl rfl ?_
  repeat' ((with_reducible fail_if_success show Wp _ _ 1 _ _ _ _); (first
      | (with_reducible refine Wp.lt (by omega) (by omega) (fun _ => ?_) (fun _ => ?_) <;> try (exfalso; omega))
      | (with_reducible refine Wp.le (by omega) (by omega) (fun _ => ?_) (fun _ => ?_) <;> try (exfalso; omega))
      | (with_reducible refine Wp.eq (by omega) (by omega) (fun _ => ?_) (fun _ => ?_) <;> try (exfalso; omega))
      | (with_reducible refine Wp.ne (by omega) (by omega) (fun _ => ?_) (fun _ => ?_) <;> try (exfalso; omega))
      | with_reducible refine Wp.lt0 (by omega) ?_
      | with_reducible refine Wp.ge0 (by omega) ?_
      | (with_reducible refine Wp.bz (fun _ => ?_) (fun _ => ?_) <;> try contradiction)
      | (with_reducible refine Wp.bn (fun _ => ?_) (fun _ => ?_) <;> try contradiction)
      | (with_reducible refine Wp.br (fun _ => ?_) (fun _ => ?_) <;> try contradiction)
      | refine Wp.gik rfl (by assumption) (by with_reducible assumption) ?_
      | refine Wp.gi rfl (by assumption) ?_
      | refine Wp.gz rfl (by assumption) ?_
      | refine Wp.gr rfl (by assumption) (by assumption) ?_
      | refine Wp.gn rfl (by assumption) (by assumption) ?_
      | refine Wp.gl rfl (by assumption) ?_
      | refine Wp.addn rfl (by with_reducible rfl) (by with_reducible rfl) ?_
      | refine Wp.muln rfl (by with_reducible rfl) (by with_reducible rfl) ?_
      | refine Wp.subn rfl (by with_reducible rfl) (by with_reducible rfl) (by omega) ?_
      | (refine Wp.decn rfl rfl ?_; dsimp only [List.set])
      | (refine Wp.incn rfl rfl ?_; dsimp only [List.set])
      | (refine Wp.go rfl rfl ?_; try dsimp only [List.set])
      | refine Wp.pi rfl (by assumption) ?_
      | refine Wp.pr rfl (by assumption) ?_
      | refine Wp.pn rfl (by assumption) ?_
      | refine Wp.pl rfl (by assumption) ?_
      | refine Wp.aik rfl (by assumption) rfl (by first | with_reducible rfl | with_reducible assumption) (by omega) (by with_reducible assumption) ?_
      | refine Wp.aiN rfl (by assumption) rfl (by first | with_reducible rfl | with_reducible assumption) (by omega) ?_
      | refine Wp.siN rfl (by assumption) rfl (by first | with_reducible rfl | with_reducible assumption) (by omega) ?_
      | refine Wp.rt rfl rfl rfl rfl ?_
      | refine Wp.rz rfl rfl (by decide) ?_))
  refine Wp.S1i rfl rfl (k_isRep (d + 6) M.2.1 (Z := zO M) x).ev0 ?_
  iterate 2 (first
      | (with_reducible refine Wp.lt (by omega) (by omega) (fun _ => ?_) (fun _ => ?_) <;> try (exfalso; omega))
      | (with_reducible refine Wp.le (by omega) (by omega) (fun _ => ?_) (fun _ => ?_) <;> try (exfalso; omega))
      | (with_reducible refine Wp.eq (by omega) (by omega) (fun _ => ?_) (fun _ => ?_) <;> try (exfalso; omega))
      | (with_reducible refine Wp.ne (by omega) (by omega) (fun _ => ?_) (fun _ => ?_) <;> try (exfalso; omega))
      | with_reducible refine Wp.lt0 (by omega) ?_
      | with_reducible refine Wp.ge0 (by omega) ?_
      | (with_reducible refine Wp.bz (fun _ => ?_) (fun _ => ?_) <;> try contradiction)
      | (with_reducible refine Wp.bn (fun _ => ?_) (fun _ => ?_) <;> try contradiction)
      | (with_reducible refine Wp.br (fun _ => ?_) (fun _ => ?_) <;> try contradiction)
      | refine Wp.gik rfl (by assumption) (by with_reducible assumption) ?_
      | refine Wp.gi rfl (by assumption) ?_
      | refine Wp.gz rfl (by assumption) ?_
      | refine Wp.gr rfl (by assumption) (by assumption) ?_
      | refine Wp.gn rfl (by assumption) (by assumption) ?_
      | refine Wp.gl rfl (by assumption) ?_
      | refine Wp.addn rfl (by with_reducible rfl) (by with_reducible rfl) ?_
      | refine Wp.muln rfl (by with_reducible rfl) (by with_reducible rfl) ?_
      | refine Wp.subn rfl (by with_reducible rfl) (by with_reducible rfl) (by omega) ?_
      | (refine Wp.decn rfl rfl ?_; dsimp only [List.set])
      | (refine Wp.incn rfl rfl ?_; dsimp only [List.set])
      | (refine Wp.go rfl rfl ?_; try dsimp only [List.set])
      | refine Wp.pi rfl (by assumption) ?_
      | refine Wp.pr rfl (by assumption) ?_
      | refine Wp.pn rfl (by assumption) ?_
      | refine Wp.pl rfl (by assumption) ?_
      | refine Wp.aik rfl (by assumption) rfl (by first | with_reducible rfl | with_reducible assumption) (by omega) (by with_reducible assumption) ?_
      | refine Wp.aiN rfl (by assumption) rfl (by first | with_reducible rfl | with_reducible assumption) (by omega) ?_
      | refine Wp.siN rfl (by assumption) rfl (by first | with_reducible rfl | with_reducible assumption) (by omega) ?_
      | refine Wp.rt rfl rfl rfl rfl ?_
      | refine Wp.rz rfl rfl (by decide) ?_)
  · repeat' (first
      | (with_reducible refine Wp.lt (by omega) (by omega) (fun _ => ?_) (fun _ => ?_) <;> try (exfalso; omega))
      | (with_reducible refine Wp.le (by omega) (by omega) (fun _ => ?_) (fun _ => ?_) <;> try (exfalso; omega))
      | (with_reducible refine Wp.eq (by omega) (by omega) (fun _ => ?_) (fun _ => ?_) <;> try (exfalso; omega))
      | (with_reducible refine Wp.ne (by omega) (by omega) (fun _ => ?_) (fun _ => ?_) <;> try (exfalso; omega))
      | with_reducible refine Wp.lt0 (by omega) ?_
      | with_reducible refine Wp.ge0 (by omega) ?_
      | (with_reducible refine Wp.bz (fun _ => ?_) (fun _ => ?_) <;> try contradiction)
      | (with_reducible refine Wp.bn (fun _ => ?_) (fun _ => ?_) <;> try contradiction)
      | (with_reducible refine Wp.br (fun _ => ?_) (fun _ => ?_) <;> try contradiction)
      | refine Wp.gik rfl (by assumption) (by with_reducible assumption) ?_
      | refine Wp.gi rfl (by assumption) ?_
      | refine Wp.gz rfl (by assumption) ?_
      | refine Wp.gr rfl (by assumption) (by assumption) ?_
      | refine Wp.gn rfl (by assumption) (by assumption) ?_
      | refine Wp.gl rfl (by assumption) ?_
      | refine Wp.addn rfl (by with_reducible rfl) (by with_reducible rfl) ?_
      | refine Wp.muln rfl (by with_reducible rfl) (by with_reducible rfl) ?_
      | refine Wp.subn rfl (by with_reducible rfl) (by with_reducible rfl) (by omega) ?_
      | (refine Wp.decn rfl rfl ?_; dsimp only [List.set])
      | (refine Wp.incn rfl rfl ?_; dsimp only [List.set])
      | (refine Wp.go rfl rfl ?_; try dsimp only [List.set])
      | refine Wp.pi rfl (by assumption) ?_
      | refine Wp.pr rfl (by assumption) ?_
      | refine Wp.pn rfl (by assumption) ?_
      | refine Wp.pl rfl (by assumption) ?_
      | refine Wp.aik rfl (by assumption) rfl (by first | with_reducible rfl | with_reducible assumption) (by omega) (by with_reducible assumption) ?_
      | refine Wp.aiN rfl (by assumption) rfl (by first | with_reducible rfl | with_reducible assumption) (by omega) ?_
      | refine Wp.siN rfl (by assumption) rfl (by first | with_reducible rfl | with_reducible assumption) (by omega) ?_
      | refine Wp.rt rfl rfl rfl rfl ?_
      | refine Wp.rz rfl rfl (by decide) ?_)
    exact ⟨rfl, rfl⟩
  rename_i hf
  iterate 1 (first
      | (with_reducible refine Wp.lt (by omega) (by omega) (fun _ => ?_) (fun _ => ?_) <;> try (exfalso; omega))
      | (with_reducible refine Wp.le (by omega) (by omega) (fun _ => ?_) (fun _ => ?_) <;> try (exfalso; omega))
      | (with_reducible refine Wp.eq (by omega) (by omega) (fun _ => ?_) (fun _ => ?_) <;> try (exfalso; omega))
      | (with_reducible refine Wp.ne (by omega) (by omega) (fun _ => ?_) (fun _ => ?_) <;> try (exfalso; omega))
      | with_reducible refine Wp.lt0 (by omega) ?_
      | with_reducible refine Wp.ge0 (by omega) ?_
      | (with_reducible refine Wp.bz (fun _ => ?_) (fun _ => ?_) <;> try contradiction)
      | (with_reducible refine Wp.bn (fun _ => ?_) (fun _ => ?_) <;> try contradiction)
      | (with_reducible refine Wp.br (fun _ => ?_) (fun _ => ?_) <;> try contradiction)
      | refine Wp.gik rfl (by assumption) (by with_reducible assumption) ?_
      | refine Wp.gi rfl (by assumption) ?_
      | refine Wp.gz rfl (by assumption) ?_
      | refine Wp.gr rfl (by assumption) (by assumption) ?_
      | refine Wp.gn rfl (by assumption) (by assumption) ?_
      | refine Wp.gl rfl (by assumption) ?_
      | refine Wp.addn rfl (by with_reducible rfl) (by with_reducible rfl) ?_
      | refine Wp.muln rfl (by with_reducible rfl) (by with_reducible rfl) ?_
      | refine Wp.subn rfl (by with_reducible rfl) (by with_reducible rfl) (by omega) ?_
      | (refine Wp.decn rfl rfl ?_; dsimp only [List.set])
      | (refine Wp.incn rfl rfl ?_; dsimp only [List.set])
      | (refine Wp.go rfl rfl ?_; try dsimp only [List.set])
      | refine Wp.pi rfl (by assumption) ?_
      | refine Wp.pr rfl (by assumption) ?_
      | refine Wp.pn rfl (by assumption) ?_
      | refine Wp.pl rfl (by assumption) ?_
      | refine Wp.aik rfl (by assumption) rfl (by first | with_reducible rfl | with_reducible assumption) (by omega) (by with_reducible assumption) ?_
      | refine Wp.aiN rfl (by assumption) rfl (by first | with_reducible rfl | with_reducible assumption) (by omega) ?_
      | refine Wp.siN rfl (by assumption) rfl (by first | with_reducible rfl | with_reducible assumption) (by omega) ?_
      | refine Wp.rt rfl rfl rfl rfl ?_
      | refine Wp.rz rfl rfl (by decide) ?_)
  iterate 1 (first
      | (with_reducible refine Wp.lt (by omega) (by omega) (fun _ => ?_) (fun _ => ?_) <;> try (exfalso; omega))
      | (with_reducible refine Wp.le (by omega) (by omega) (fun _ => ?_) (fun _ => ?_) <;> try (exfalso; omega))
      | (with_reducible refine Wp.eq (by omega) (by omega) (fun _ => ?_) (fun _ => ?_) <;> try (exfalso; omega))
      | (with_reducible refine Wp.ne (by omega) (by omega) (fun _ => ?_) (fun _ => ?_) <;> try (exfalso; omega))
      | with_reducible refine Wp.lt0 (by omega) ?_
      | with_reducible refine Wp.ge0 (by omega) ?_
      | (with_reducible refine Wp.bz (fun _ => ?_) (fun _ => ?_) <;> try contradiction)
      | (with_reducible refine Wp.bn (fun _ => ?_) (fun _ => ?_) <;> try contradiction)
      | (with_reducible refine Wp.br (fun _ => ?_) (fun _ => ?_) <;> try contradiction)
      | refine Wp.gik rfl (by assumption) (by with_reducible assumption) ?_
      | refine Wp.gi rfl (by assumption) ?_
      | refine Wp.gz rfl (by assumption) ?_
      | refine Wp.gr rfl (by assumption) (by assumption) ?_
      | refine Wp.gn rfl (by assumption) (by assumption) ?_
      | refine Wp.gl rfl (by assumption) ?_
      | refine Wp.addn rfl (by with_reducible rfl) (by with_reducible rfl) ?_
      | refine Wp.muln rfl (by with_reducible rfl) (by with_reducible rfl) ?_
      | refine Wp.subn rfl (by with_reducible rfl) (by with_reducible rfl) (by omega) ?_
      | (refine Wp.decn rfl rfl ?_; dsimp only [List.set])
      | (refine Wp.incn rfl rfl ?_; dsimp only [List.set])
      | (refine Wp.go rfl rfl ?_; try dsimp only [List.set])
      | refine Wp.pi rfl (by assumption) ?_
      | refine Wp.pr rfl (by assumption) ?_
      | refine Wp.pn rfl (by assumption) ?_
      | refine Wp.pl rfl (by assumption) ?_
      | refine Wp.aik rfl (by assumption) rfl (by first | with_reducible rfl | with_reducible assumption) (by omega) (by with_reducible assumption) ?_
      | refine Wp.aiN rfl (by assumption) rfl (by first | with_reducible rfl | with_reducible assumption) (by omega) ?_
      | refine Wp.siN rfl (by assumption) rfl (by first | with_reducible rfl | with_reducible assumption) (by omega) ?_
      | refine Wp.rt rfl rfl rfl rfl ?_
      | refine Wp.rz rfl rfl (by decide) ?_)
  refine Wp.br (fun h1 => ?_) (fun h1 => ?_)
  · repeat' (first
      | (with_reducible refine Wp.lt (by omega) (by omega) (fun _ => ?_) (fun _ => ?_) <;> try (exfalso; omega))
      | (with_reducible refine Wp.le (by omega) (by omega) (fun _ => ?_) (fun _ => ?_) <;> try (exfalso; omega))
      | (with_reducible refine Wp.eq (by omega) (by omega) (fun _ => ?_) (fun _ => ?_) <;> try (exfalso; omega))
      | (with_reducible refine Wp.ne (by omega) (by omega) (fun _ => ?_) (fun _ => ?_) <;> try (exfalso; omega))
      | with_reducible refine Wp.lt0 (by omega) ?_
      | with_reducible refine Wp.ge0 (by omega) ?_
      | (with_reducible refine Wp.bz (fun _ => ?_) (fun _ => ?_) <;> try contradiction)
      | (with_reducible refine Wp.bn (fun _ => ?_) (fun _ => ?_) <;> try contradiction)
      | (with_reducible refine Wp.br (fun _ => ?_) (fun _ => ?_) <;> try contradiction)
      | refine Wp.gik rfl (by assumption) (by with_reducible assumption) ?_
      | refine Wp.gi rfl (by assumption) ?_
      | refine Wp.gz rfl (by assumption) ?_
      | refine Wp.gr rfl (by assumption) (by assumption) ?_
      | refine Wp.gn rfl (by assumption) (by assumption) ?_
      | refine Wp.gl rfl (by assumption) ?_
      | refine Wp.addn rfl (by with_reducible rfl) (by with_reducible rfl) ?_
      | refine Wp.muln rfl (by with_reducible rfl) (by with_reducible rfl) ?_
      | refine Wp.subn rfl (by with_reducible rfl) (by with_reducible rfl) (by omega) ?_
      | (refine Wp.decn rfl rfl ?_; dsimp only [List.set])
      | (refine Wp.incn rfl rfl ?_; dsimp only [List.set])
      | (refine Wp.go rfl rfl ?_; try dsimp only [List.set])
      | refine Wp.pi rfl (by assumption) ?_
      | refine Wp.pr rfl (by assumption) ?_
      | refine Wp.pn rfl (by assumption) ?_
      | refine Wp.pl rfl (by assumption) ?_
      | refine Wp.aik rfl (by assumption) rfl (by first | with_reducible rfl | with_reducible assumption) (by omega) (by with_reducible assumption) ?_
      | refine Wp.aiN rfl (by assumption) rfl (by first | with_reducible rfl | with_reducible assumption) (by omega) ?_
      | refine Wp.siN rfl (by assumption) rfl (by first | with_reducible rfl | with_reducible assumption) (by omega) ?_
      | refine Wp.rt rfl rfl rfl rfl ?_
      | refine Wp.rz rfl rfl (by decide) ?_)
    exact ⟨rfl, rfl⟩
  iterate 2 (first
      | (with_reducible refine Wp.lt (by omega) (by omega) (fun _ => ?_) (fun _ => ?_) <;> try (exfalso; omega))
      | (with_reducible refine Wp.le (by omega) (by omega) (fun _ => ?_) (fun _ => ?_) <;> try (exfalso; omega))
      | (with_reducible refine Wp.eq (by omega) (by omega) (fun _ => ?_) (fun _ => ?_) <;> try (exfalso; omega))
      | (with_reducible refine Wp.ne (by omega) (by omega) (fun _ => ?_) (fun _ => ?_) <;> try (exfalso; omega))
      | with_reducible refine Wp.lt0 (by omega) ?_
      | with_reducible refine Wp.ge0 (by omega) ?_
      | (with_reducible refine Wp.bz (fun _ => ?_) (fun _ => ?_) <;> try contradiction)
      | (with_reducible refine Wp.bn (fun _ => ?_) (fun _ => ?_) <;> try contradiction)
      | (with_reducible refine Wp.br (fun _ => ?_) (fun _ => ?_) <;> try contradiction)
      | refine Wp.gik rfl (by assumption) (by with_reducible assumption) ?_
      | refine Wp.gi rfl (by assumption) ?_
      | refine Wp.gz rfl (by assumption) ?_
      | refine Wp.gr rfl (by assumption) (by assumption) ?_
      | refine Wp.gn rfl (by assumption) (by assumption) ?_
      | refine Wp.gl rfl (by assumption) ?_
      | refine Wp.addn rfl (by with_reducible rfl) (by with_reducible rfl) ?_
      | refine Wp.muln rfl (by with_reducible rfl) (by with_reducible rfl) ?_
      | refine Wp.subn rfl (by with_reducible rfl) (by with_reducible rfl) (by omega) ?_
      | (refine Wp.decn rfl rfl ?_; dsimp only [List.set])
      | (refine Wp.incn rfl rfl ?_; dsimp only [List.set])
      | (refine Wp.go rfl rfl ?_; try dsimp only [List.set])
      | refine Wp.pi rfl (by assumption) ?_
      | refine Wp.pr rfl (by assumption) ?_
      | refine Wp.pn rfl (by assumption) ?_
      | refine Wp.pl rfl (by assumption) ?_
      | refine Wp.aik rfl (by assumption) rfl (by first | with_reducible rfl | with_reducible assumption) (by omega) (by with_reducible assumption) ?_
      | refine Wp.aiN rfl (by assumption) rfl (by first | with_reducible rfl | with_reducible assumption) (by omega) ?_
      | refine Wp.siN rfl (by assumption) rfl (by first | with_reducible rfl | with_reducible assumption) (by omega) ?_
      | refine Wp.rt rfl rfl rfl rfl ?_
      | refine Wp.rz rfl rfl (by decide) ?_)
  iterate 1 (first
      | (with_reducible refine Wp.lt (by omega) (by omega) (fun _ => ?_) (fun _ => ?_) <;> try (exfalso; omega))
      | (with_reducible refine Wp.le (by omega) (by omega) (fun _ => ?_) (fun _ => ?_) <;> try (exfalso; omega))
      | (with_reducible refine Wp.eq (by omega) (by omega) (fun _ => ?_) (fun _ => ?_) <;> try (exfalso; omega))
      | (with_reducible refine Wp.ne (by omega) (by omega) (fun _ => ?_) (fun _ => ?_) <;> try (exfalso; omega))
      | with_reducible refine Wp.lt0 (by omega) ?_
      | with_reducible refine Wp.ge0 (by omega) ?_
      | (with_reducible refine Wp.bz (fun _ => ?_) (fun _ => ?_) <;> try contradiction)
      | (with_reducible refine Wp.bn (fun _ => ?_) (fun _ => ?_) <;> try contradiction)
      | (with_reducible refine Wp.br (fun _ => ?_) (fun _ => ?_) <;> try contradiction)
      | refine Wp.gik rfl (by assumption) (by with_reducible assumption) ?_
      | refine Wp.gi rfl (by assumption) ?_
      | refine Wp.gz rfl (by assumption) ?_
      | refine Wp.gr rfl (by assumption) (by assumption) ?_
      | refine Wp.gn rfl (by assumption) (by assumption) ?_
      | refine Wp.gl rfl (by assumption) ?_
      | refine Wp.addn rfl (by with_reducible rfl) (by with_reducible rfl) ?_
      | refine Wp.muln rfl (by with_reducible rfl) (by with_reducible rfl) ?_
      | refine Wp.subn rfl (by with_reducible rfl) (by with_reducible rfl) (by omega) ?_
      | (refine Wp.decn rfl rfl ?_; dsimp only [List.set])
      | (refine Wp.incn rfl rfl ?_; dsimp only [List.set])
      | (refine Wp.go rfl rfl ?_; try dsimp only [List.set])
      | refine Wp.pi rfl (by assumption) ?_
      | refine Wp.pr rfl (by assumption) ?_
      | refine Wp.pn rfl (by assumption) ?_
      | refine Wp.pl rfl (by assumption) ?_
      | refine Wp.aik rfl (by assumption) rfl (by first | with_reducible rfl | with_reducible assumption) (by omega) (by with_reducible assumption) ?_
      | refine Wp.aiN rfl (by assumption) rfl (by first | with_reducible rfl | with_reducible assumption) (by omega) ?_
      | refine Wp.siN rfl (by assumption) rfl (by first | with_reducible rfl | with_reducible assumption) (by omega) ?_
      | refine Wp.rt rfl rfl rfl rfl ?_
      | refine Wp.rz rfl rfl (by decide) ?_)
  refine Wp.br (fun h2 => ?_) (fun h2 => ?_)
  · exfalso
    rcases hx with q | q | q
    · rw [hf] at q
      exact absurd q (by decide)
    · exact h1 q
    · rw [Int32.lt_iff_toInt_lt] at q h2
      have e3 : (nI 3).toInt = 3 := rfl
      have e4 : (nI 4).toInt = 4 := rfl
      omega
  · repeat' (first
      | (with_reducible refine Wp.lt (by omega) (by omega) (fun _ => ?_) (fun _ => ?_) <;> try (exfalso; omega))
      | (with_reducible refine Wp.le (by omega) (by omega) (fun _ => ?_) (fun _ => ?_) <;> try (exfalso; omega))
      | (with_reducible refine Wp.eq (by omega) (by omega) (fun _ => ?_) (fun _ => ?_) <;> try (exfalso; omega))
      | (with_reducible refine Wp.ne (by omega) (by omega) (fun _ => ?_) (fun _ => ?_) <;> try (exfalso; omega))
      | with_reducible refine Wp.lt0 (by omega) ?_
      | with_reducible refine Wp.ge0 (by omega) ?_
      | (with_reducible refine Wp.bz (fun _ => ?_) (fun _ => ?_) <;> try contradiction)
      | (with_reducible refine Wp.bn (fun _ => ?_) (fun _ => ?_) <;> try contradiction)
      | (with_reducible refine Wp.br (fun _ => ?_) (fun _ => ?_) <;> try contradiction)
      | refine Wp.gik rfl (by assumption) (by with_reducible assumption) ?_
      | refine Wp.gi rfl (by assumption) ?_
      | refine Wp.gz rfl (by assumption) ?_
      | refine Wp.gr rfl (by assumption) (by assumption) ?_
      | refine Wp.gn rfl (by assumption) (by assumption) ?_
      | refine Wp.gl rfl (by assumption) ?_
      | refine Wp.addn rfl (by with_reducible rfl) (by with_reducible rfl) ?_
      | refine Wp.muln rfl (by with_reducible rfl) (by with_reducible rfl) ?_
      | refine Wp.subn rfl (by with_reducible rfl) (by with_reducible rfl) (by omega) ?_
      | (refine Wp.decn rfl rfl ?_; dsimp only [List.set])
      | (refine Wp.incn rfl rfl ?_; dsimp only [List.set])
      | (refine Wp.go rfl rfl ?_; try dsimp only [List.set])
      | refine Wp.pi rfl (by assumption) ?_
      | refine Wp.pr rfl (by assumption) ?_
      | refine Wp.pn rfl (by assumption) ?_
      | refine Wp.pl rfl (by assumption) ?_
      | refine Wp.aik rfl (by assumption) rfl (by first | with_reducible rfl | with_reducible assumption) (by omega) (by with_reducible assumption) ?_
      | refine Wp.aiN rfl (by assumption) rfl (by first | with_reducible rfl | with_reducible assumption) (by omega) ?_
      | refine Wp.siN rfl (by assumption) rfl (by first | with_reducible rfl | with_reducible assumption) (by omega) ?_
      | refine Wp.rt rfl rfl rfl rfl ?_
      | refine Wp.rz rfl rfl (by decide) ?_)
    exact ⟨rfl, rfl⟩
set_option maxHeartbeats 4000000 in
theorem k_vot (d : Nat) (h : Rp M C) (hr : r < 5) (h1 : 1 ≤ s) (h2 : s ≤ 24) : Ev (d + 8) 92 M [.ref 0, .int (nI r), .int (nI s)] (fun M' w => M' = M ∧ w = some (.int (if C.1 (9 + 13 * r + 2) s = 0 then nI 0 else nI 64 * C.1 (9 + 13 * r + 2) s + C.1 (9 + 13 * r + 3) s))) := by
  obtain ⟨m1, m2, m3, m4, m5, m6, m7, m8⟩ := h.hm
  obtain ⟨p1, p2, p3, p4, p5, p6⟩ := h.f hr
  obtain ⟨g1, g2, g3, g4, g5, g6, g7⟩ := h.g hr
  have hs : c_sl s = true := c_sl_t.mpr ⟨h1, h2⟩
  have e2 : M.2.1 (9 + 13 * r + 1 + 1) s = C.1 (9 + 13 * r + 2) s := h.1 _ _ (by omega)
  have e3 : M.2.1 (9 + 13 * r + 1 + 2) s = C.1 (9 + 13 * r + 3) s := h.1 _ _ (by omega)
  refine Ev.of (ls := [some (.ref 0), some (.int (nI r)), some (.int (nI s)), none]) rfl rfl ?_
  repeat' ((with_reducible fail_if_success show Wp _ _ 1 _ _ _ _); (first
      | (with_reducible refine Wp.lt (by omega) (by omega) (fun _ => ?_) (fun _ => ?_) <;> try (exfalso; omega))
      | (with_reducible refine Wp.le (by omega) (by omega) (fun _ => ?_) (fun _ => ?_) <;> try (exfalso; omega))
      | (with_reducible refine Wp.eq (by omega) (by omega) (fun _ => ?_) (fun _ => ?_) <;> try (exfalso; omega))
      | (with_reducible refine Wp.ne (by omega) (by omega) (fun _ => ?_) (fun _ => ?_) <;> try (exfalso; omega))
      | with_reducible refine Wp.lt0 (by omega) ?_
      | with_reducible refine Wp.ge0 (by omega) ?_
      | (with_reducible refine Wp.bz (fun _ => ?_) (fun _ => ?_) <;> try contradiction)
      | (with_reducible refine Wp.bn (fun _ => ?_) (fun _ => ?_) <;> try contradiction)
      | (with_reducible refine Wp.br (fun _ => ?_) (fun _ => ?_) <;> try contradiction)
      | refine Wp.gik rfl (by assumption) (by with_reducible assumption) ?_
      | refine Wp.gi rfl (by assumption) ?_
      | refine Wp.gz rfl (by assumption) ?_
      | refine Wp.gr rfl (by assumption) (by assumption) ?_
      | refine Wp.gn rfl (by assumption) (by assumption) ?_
      | refine Wp.gl rfl (by assumption) ?_
      | refine Wp.addn rfl (by with_reducible rfl) (by with_reducible rfl) ?_
      | refine Wp.muln rfl (by with_reducible rfl) (by with_reducible rfl) ?_
      | refine Wp.subn rfl (by with_reducible rfl) (by with_reducible rfl) (by omega) ?_
      | (refine Wp.decn rfl rfl ?_; dsimp only [List.set])
      | (refine Wp.incn rfl rfl ?_; dsimp only [List.set])
      | (refine Wp.go rfl rfl ?_; try dsimp only [List.set])
      | refine Wp.pi rfl (by assumption) ?_
      | refine Wp.pr rfl (by assumption) ?_
      | refine Wp.pn rfl (by assumption) ?_
      | refine Wp.pl rfl (by assumption) ?_
      | refine Wp.aik rfl (by assumption) rfl (by first | with_reducible rfl | with_reducible assumption) (by omega) (by with_reducible assumption) ?_
      | refine Wp.aiN rfl (by assumption) rfl (by first | with_reducible rfl | with_reducible assumption) (by omega) ?_
      | refine Wp.siN rfl (by assumption) rfl (by first | with_reducible rfl | with_reducible assumption) (by omega) ?_
      | refine Wp.rt rfl rfl rfl rfl ?_
      | refine Wp.rz rfl rfl (by decide) ?_))
  refine Wp.S1i rfl rfl (k_isRep (d + 6) M.2.1 (Z := zO M) (nI r)).ev0 ?_
  rw [f_rep_n hr]
  repeat' ((with_reducible fail_if_success show Wp _ _ 8 _ _ _ _); (first
      | (with_reducible refine Wp.lt (by omega) (by omega) (fun _ => ?_) (fun _ => ?_) <;> try (exfalso; omega))
      | (with_reducible refine Wp.le (by omega) (by omega) (fun _ => ?_) (fun _ => ?_) <;> try (exfalso; omega))
      | (with_reducible refine Wp.eq (by omega) (by omega) (fun _ => ?_) (fun _ => ?_) <;> try (exfalso; omega))
      | (with_reducible refine Wp.ne (by omega) (by omega) (fun _ => ?_) (fun _ => ?_) <;> try (exfalso; omega))
      | with_reducible refine Wp.lt0 (by omega) ?_
      | with_reducible refine Wp.ge0 (by omega) ?_
      | (with_reducible refine Wp.bz (fun _ => ?_) (fun _ => ?_) <;> try contradiction)
      | (with_reducible refine Wp.bn (fun _ => ?_) (fun _ => ?_) <;> try contradiction)
      | (with_reducible refine Wp.br (fun _ => ?_) (fun _ => ?_) <;> try contradiction)
      | refine Wp.gik rfl (by assumption) (by with_reducible assumption) ?_
      | refine Wp.gi rfl (by assumption) ?_
      | refine Wp.gz rfl (by assumption) ?_
      | refine Wp.gr rfl (by assumption) (by assumption) ?_
      | refine Wp.gn rfl (by assumption) (by assumption) ?_
      | refine Wp.gl rfl (by assumption) ?_
      | refine Wp.addn rfl (by with_reducible rfl) (by with_reducible rfl) ?_
      | refine Wp.muln rfl (by with_reducible rfl) (by with_reducible rfl) ?_
      | refine Wp.subn rfl (by with_reducible rfl) (by with_reducible rfl) (by omega) ?_
      | (refine Wp.decn rfl rfl ?_; dsimp only [List.set])
      | (refine Wp.incn rfl rfl ?_; dsimp only [List.set])
      | (refine Wp.go rfl rfl ?_; try dsimp only [List.set])
      | refine Wp.pi rfl (by assumption) ?_
      | refine Wp.pr rfl (by assumption) ?_
      | refine Wp.pn rfl (by assumption) ?_
      | refine Wp.pl rfl (by assumption) ?_
      | refine Wp.aik rfl (by assumption) rfl (by first | with_reducible rfl | with_reducible assumption) (by omega) (by with_reducible assumption) ?_
      | refine Wp.aiN rfl (by assumption) rfl (by first | with_reducible rfl | with_reducible assumption) (by omega) ?_
      | refine Wp.siN rfl (by assumption) rfl (by first | with_reducible rfl | with_reducible assumption) (by omega) ?_
      | refine Wp.rt rfl rfl rfl rfl ?_
      | refine Wp.rz rfl rfl (by decide) ?_))
  refine Wp.S1i rfl rfl (k_slot (d + 6) M.2.1 (Z := zO M) (s := s) (by omega)).ev0 ?_
  rw [hs]
  repeat' ((with_reducible fail_if_success show Wp _ _ 21 _ _ _ _); (first
      | (with_reducible refine Wp.lt (by omega) (by omega) (fun _ => ?_) (fun _ => ?_) <;> try (exfalso; omega))
      | (with_reducible refine Wp.le (by omega) (by omega) (fun _ => ?_) (fun _ => ?_) <;> try (exfalso; omega))
      | (with_reducible refine Wp.eq (by omega) (by omega) (fun _ => ?_) (fun _ => ?_) <;> try (exfalso; omega))
      | (with_reducible refine Wp.ne (by omega) (by omega) (fun _ => ?_) (fun _ => ?_) <;> try (exfalso; omega))
      | with_reducible refine Wp.lt0 (by omega) ?_
      | with_reducible refine Wp.ge0 (by omega) ?_
      | (with_reducible refine Wp.bz (fun _ => ?_) (fun _ => ?_) <;> try contradiction)
      | (with_reducible refine Wp.bn (fun _ => ?_) (fun _ => ?_) <;> try contradiction)
      | (with_reducible refine Wp.br (fun _ => ?_) (fun _ => ?_) <;> try contradiction)
      | refine Wp.gik rfl (by assumption) (by with_reducible assumption) ?_
      | refine Wp.gi rfl (by assumption) ?_
      | refine Wp.gz rfl (by assumption) ?_
      | refine Wp.gr rfl (by assumption) (by assumption) ?_
      | refine Wp.gn rfl (by assumption) (by assumption) ?_
      | refine Wp.gl rfl (by assumption) ?_
      | refine Wp.addn rfl (by with_reducible rfl) (by with_reducible rfl) ?_
      | refine Wp.muln rfl (by with_reducible rfl) (by with_reducible rfl) ?_
      | refine Wp.subn rfl (by with_reducible rfl) (by with_reducible rfl) (by omega) ?_
      | (refine Wp.decn rfl rfl ?_; dsimp only [List.set])
      | (refine Wp.incn rfl rfl ?_; dsimp only [List.set])
      | (refine Wp.go rfl rfl ?_; try dsimp only [List.set])
      | refine Wp.pi rfl (by assumption) ?_
      | refine Wp.pr rfl (by assumption) ?_
      | refine Wp.pn rfl (by assumption) ?_
      | refine Wp.pl rfl (by assumption) ?_
      | refine Wp.aik rfl (by assumption) rfl (by first | with_reducible rfl | with_reducible assumption) (by omega) (by with_reducible assumption) ?_
      | refine Wp.aiN rfl (by assumption) rfl (by first | with_reducible rfl | with_reducible assumption) (by omega) ?_
      | refine Wp.siN rfl (by assumption) rfl (by first | with_reducible rfl | with_reducible assumption) (by omega) ?_
      | refine Wp.rt rfl rfl rfl rfl ?_
      | refine Wp.rz rfl rfl (by decide) ?_))
  refine Wp.aq rfl m5 (by decide) hr (by decide) (m6 r hr) ?_
  repeat' ((with_reducible fail_if_success show Wp _ _ 28 _ _ _ _); (first
      | (with_reducible refine Wp.lt (by omega) (by omega) (fun _ => ?_) (fun _ => ?_) <;> try (exfalso; omega))
      | (with_reducible refine Wp.le (by omega) (by omega) (fun _ => ?_) (fun _ => ?_) <;> try (exfalso; omega))
      | (with_reducible refine Wp.eq (by omega) (by omega) (fun _ => ?_) (fun _ => ?_) <;> try (exfalso; omega))
      | (with_reducible refine Wp.ne (by omega) (by omega) (fun _ => ?_) (fun _ => ?_) <;> try (exfalso; omega))
      | with_reducible refine Wp.lt0 (by omega) ?_
      | with_reducible refine Wp.ge0 (by omega) ?_
      | (with_reducible refine Wp.bz (fun _ => ?_) (fun _ => ?_) <;> try contradiction)
      | (with_reducible refine Wp.bn (fun _ => ?_) (fun _ => ?_) <;> try contradiction)
      | (with_reducible refine Wp.br (fun _ => ?_) (fun _ => ?_) <;> try contradiction)
      | refine Wp.gik rfl (by assumption) (by with_reducible assumption) ?_
      | refine Wp.gi rfl (by assumption) ?_
      | refine Wp.gz rfl (by assumption) ?_
      | refine Wp.gr rfl (by assumption) (by assumption) ?_
      | refine Wp.gn rfl (by assumption) (by assumption) ?_
      | refine Wp.gl rfl (by assumption) ?_
      | refine Wp.addn rfl (by with_reducible rfl) (by with_reducible rfl) ?_
      | refine Wp.muln rfl (by with_reducible rfl) (by with_reducible rfl) ?_
      | refine Wp.subn rfl (by with_reducible rfl) (by with_reducible rfl) (by omega) ?_
      | (refine Wp.decn rfl rfl ?_; dsimp only [List.set])
      | (refine Wp.incn rfl rfl ?_; dsimp only [List.set])
      | (refine Wp.go rfl rfl ?_; try dsimp only [List.set])
      | refine Wp.pi rfl (by assumption) ?_
      | refine Wp.pr rfl (by assumption) ?_
      | refine Wp.pn rfl (by assumption) ?_
      | refine Wp.pl rfl (by assumption) ?_
      | refine Wp.aik rfl (by assumption) rfl (by first | with_reducible rfl | with_reducible assumption) (by omega) (by with_reducible assumption) ?_
      | refine Wp.aiN rfl (by assumption) rfl (by first | with_reducible rfl | with_reducible assumption) (by omega) ?_
      | refine Wp.siN rfl (by assumption) rfl (by first | with_reducible rfl | with_reducible assumption) (by omega) ?_
      | refine Wp.rt rfl rfl rfl rfl ?_
      | refine Wp.rz rfl rfl (by decide) ?_))
  refine Wp.V1i rfl g1 rfl (k_vhas (d + 5) M.2.1 (Z := zO M) (by omega) (h.vK hr)).ev0 ?_
  iterate 2 (first
      | (with_reducible refine Wp.lt (by omega) (by omega) (fun _ => ?_) (fun _ => ?_) <;> try (exfalso; omega))
      | (with_reducible refine Wp.le (by omega) (by omega) (fun _ => ?_) (fun _ => ?_) <;> try (exfalso; omega))
      | (with_reducible refine Wp.eq (by omega) (by omega) (fun _ => ?_) (fun _ => ?_) <;> try (exfalso; omega))
      | (with_reducible refine Wp.ne (by omega) (by omega) (fun _ => ?_) (fun _ => ?_) <;> try (exfalso; omega))
      | with_reducible refine Wp.lt0 (by omega) ?_
      | with_reducible refine Wp.ge0 (by omega) ?_
      | (with_reducible refine Wp.bz (fun _ => ?_) (fun _ => ?_) <;> try contradiction)
      | (with_reducible refine Wp.bn (fun _ => ?_) (fun _ => ?_) <;> try contradiction)
      | (with_reducible refine Wp.br (fun _ => ?_) (fun _ => ?_) <;> try contradiction)
      | refine Wp.gik rfl (by assumption) (by with_reducible assumption) ?_
      | refine Wp.gi rfl (by assumption) ?_
      | refine Wp.gz rfl (by assumption) ?_
      | refine Wp.gr rfl (by assumption) (by assumption) ?_
      | refine Wp.gn rfl (by assumption) (by assumption) ?_
      | refine Wp.gl rfl (by assumption) ?_
      | refine Wp.addn rfl (by with_reducible rfl) (by with_reducible rfl) ?_
      | refine Wp.muln rfl (by with_reducible rfl) (by with_reducible rfl) ?_
      | refine Wp.subn rfl (by with_reducible rfl) (by with_reducible rfl) (by omega) ?_
      | (refine Wp.decn rfl rfl ?_; dsimp only [List.set])
      | (refine Wp.incn rfl rfl ?_; dsimp only [List.set])
      | (refine Wp.go rfl rfl ?_; try dsimp only [List.set])
      | refine Wp.pi rfl (by assumption) ?_
      | refine Wp.pr rfl (by assumption) ?_
      | refine Wp.pn rfl (by assumption) ?_
      | refine Wp.pl rfl (by assumption) ?_
      | refine Wp.aik rfl (by assumption) rfl (by first | with_reducible rfl | with_reducible assumption) (by omega) (by with_reducible assumption) ?_
      | refine Wp.aiN rfl (by assumption) rfl (by first | with_reducible rfl | with_reducible assumption) (by omega) ?_
      | refine Wp.siN rfl (by assumption) rfl (by first | with_reducible rfl | with_reducible assumption) (by omega) ?_
      | refine Wp.rt rfl rfl rfl rfl ?_
      | refine Wp.rz rfl rfl (by decide) ?_)
  · rename_i hc
    repeat' (first
      | (with_reducible refine Wp.lt (by omega) (by omega) (fun _ => ?_) (fun _ => ?_) <;> try (exfalso; omega))
      | (with_reducible refine Wp.le (by omega) (by omega) (fun _ => ?_) (fun _ => ?_) <;> try (exfalso; omega))
      | (with_reducible refine Wp.eq (by omega) (by omega) (fun _ => ?_) (fun _ => ?_) <;> try (exfalso; omega))
      | (with_reducible refine Wp.ne (by omega) (by omega) (fun _ => ?_) (fun _ => ?_) <;> try (exfalso; omega))
      | with_reducible refine Wp.lt0 (by omega) ?_
      | with_reducible refine Wp.ge0 (by omega) ?_
      | (with_reducible refine Wp.bz (fun _ => ?_) (fun _ => ?_) <;> try contradiction)
      | (with_reducible refine Wp.bn (fun _ => ?_) (fun _ => ?_) <;> try contradiction)
      | (with_reducible refine Wp.br (fun _ => ?_) (fun _ => ?_) <;> try contradiction)
      | refine Wp.gik rfl (by assumption) (by with_reducible assumption) ?_
      | refine Wp.gi rfl (by assumption) ?_
      | refine Wp.gz rfl (by assumption) ?_
      | refine Wp.gr rfl (by assumption) (by assumption) ?_
      | refine Wp.gn rfl (by assumption) (by assumption) ?_
      | refine Wp.gl rfl (by assumption) ?_
      | refine Wp.addn rfl (by with_reducible rfl) (by with_reducible rfl) ?_
      | refine Wp.muln rfl (by with_reducible rfl) (by with_reducible rfl) ?_
      | refine Wp.subn rfl (by with_reducible rfl) (by with_reducible rfl) (by omega) ?_
      | (refine Wp.decn rfl rfl ?_; dsimp only [List.set])
      | (refine Wp.incn rfl rfl ?_; dsimp only [List.set])
      | (refine Wp.go rfl rfl ?_; try dsimp only [List.set])
      | refine Wp.pi rfl (by assumption) ?_
      | refine Wp.pr rfl (by assumption) ?_
      | refine Wp.pn rfl (by assumption) ?_
      | refine Wp.pl rfl (by assumption) ?_
      | refine Wp.aik rfl (by assumption) rfl (by first | with_reducible rfl | with_reducible assumption) (by omega) (by with_reducible assumption) ?_
      | refine Wp.aiN rfl (by assumption) rfl (by first | with_reducible rfl | with_reducible assumption) (by omega) ?_
      | refine Wp.siN rfl (by assumption) rfl (by first | with_reducible rfl | with_reducible assumption) (by omega) ?_
      | refine Wp.rt rfl rfl rfl rfl ?_
      | refine Wp.rz rfl rfl (by decide) ?_)
    rw [c_vh, hs, e2, Bool.true_and, decide_eq_false_iff_not, Classical.not_not] at hc
    rw [if_pos hc]
    exact ⟨rfl, rfl⟩
  · rename_i hc
    repeat' ((with_reducible fail_if_success show Wp _ _ 38 _ _ _ _); (first
      | (with_reducible refine Wp.lt (by omega) (by omega) (fun _ => ?_) (fun _ => ?_) <;> try (exfalso; omega))
      | (with_reducible refine Wp.le (by omega) (by omega) (fun _ => ?_) (fun _ => ?_) <;> try (exfalso; omega))
      | (with_reducible refine Wp.eq (by omega) (by omega) (fun _ => ?_) (fun _ => ?_) <;> try (exfalso; omega))
      | (with_reducible refine Wp.ne (by omega) (by omega) (fun _ => ?_) (fun _ => ?_) <;> try (exfalso; omega))
      | with_reducible refine Wp.lt0 (by omega) ?_
      | with_reducible refine Wp.ge0 (by omega) ?_
      | (with_reducible refine Wp.bz (fun _ => ?_) (fun _ => ?_) <;> try contradiction)
      | (with_reducible refine Wp.bn (fun _ => ?_) (fun _ => ?_) <;> try contradiction)
      | (with_reducible refine Wp.br (fun _ => ?_) (fun _ => ?_) <;> try contradiction)
      | refine Wp.gik rfl (by assumption) (by with_reducible assumption) ?_
      | refine Wp.gi rfl (by assumption) ?_
      | refine Wp.gz rfl (by assumption) ?_
      | refine Wp.gr rfl (by assumption) (by assumption) ?_
      | refine Wp.gn rfl (by assumption) (by assumption) ?_
      | refine Wp.gl rfl (by assumption) ?_
      | refine Wp.addn rfl (by with_reducible rfl) (by with_reducible rfl) ?_
      | refine Wp.muln rfl (by with_reducible rfl) (by with_reducible rfl) ?_
      | refine Wp.subn rfl (by with_reducible rfl) (by with_reducible rfl) (by omega) ?_
      | (refine Wp.decn rfl rfl ?_; dsimp only [List.set])
      | (refine Wp.incn rfl rfl ?_; dsimp only [List.set])
      | (refine Wp.go rfl rfl ?_; try dsimp only [List.set])
      | refine Wp.pi rfl (by assumption) ?_
      | refine Wp.pr rfl (by assumption) ?_
      | refine Wp.pn rfl (by assumption) ?_
      | refine Wp.pl rfl (by assumption) ?_
      | refine Wp.aik rfl (by assumption) rfl (by first | with_reducible rfl | with_reducible assumption) (by omega) (by with_reducible assumption) ?_
      | refine Wp.aiN rfl (by assumption) rfl (by first | with_reducible rfl | with_reducible assumption) (by omega) ?_
      | refine Wp.siN rfl (by assumption) rfl (by first | with_reducible rfl | with_reducible assumption) (by omega) ?_
      | refine Wp.rt rfl rfl rfl rfl ?_
      | refine Wp.rz rfl rfl (by decide) ?_))
    refine Wp.V1i rfl g1 rfl (k_vballot (d + 4) M.2.1 (Z := zO M) (by omega) (h.vK hr)).ev0 ?_
    repeat' ((with_reducible fail_if_success show Wp _ _ 44 _ _ _ _); (first
      | (with_reducible refine Wp.lt (by omega) (by omega) (fun _ => ?_) (fun _ => ?_) <;> try (exfalso; omega))
      | (with_reducible refine Wp.le (by omega) (by omega) (fun _ => ?_) (fun _ => ?_) <;> try (exfalso; omega))
      | (with_reducible refine Wp.eq (by omega) (by omega) (fun _ => ?_) (fun _ => ?_) <;> try (exfalso; omega))
      | (with_reducible refine Wp.ne (by omega) (by omega) (fun _ => ?_) (fun _ => ?_) <;> try (exfalso; omega))
      | with_reducible refine Wp.lt0 (by omega) ?_
      | with_reducible refine Wp.ge0 (by omega) ?_
      | (with_reducible refine Wp.bz (fun _ => ?_) (fun _ => ?_) <;> try contradiction)
      | (with_reducible refine Wp.bn (fun _ => ?_) (fun _ => ?_) <;> try contradiction)
      | (with_reducible refine Wp.br (fun _ => ?_) (fun _ => ?_) <;> try contradiction)
      | refine Wp.gik rfl (by assumption) (by with_reducible assumption) ?_
      | refine Wp.gi rfl (by assumption) ?_
      | refine Wp.gz rfl (by assumption) ?_
      | refine Wp.gr rfl (by assumption) (by assumption) ?_
      | refine Wp.gn rfl (by assumption) (by assumption) ?_
      | refine Wp.gl rfl (by assumption) ?_
      | refine Wp.addn rfl (by with_reducible rfl) (by with_reducible rfl) ?_
      | refine Wp.muln rfl (by with_reducible rfl) (by with_reducible rfl) ?_
      | refine Wp.subn rfl (by with_reducible rfl) (by with_reducible rfl) (by omega) ?_
      | (refine Wp.decn rfl rfl ?_; dsimp only [List.set])
      | (refine Wp.incn rfl rfl ?_; dsimp only [List.set])
      | (refine Wp.go rfl rfl ?_; try dsimp only [List.set])
      | refine Wp.pi rfl (by assumption) ?_
      | refine Wp.pr rfl (by assumption) ?_
      | refine Wp.pn rfl (by assumption) ?_
      | refine Wp.pl rfl (by assumption) ?_
      | refine Wp.aik rfl (by assumption) rfl (by first | with_reducible rfl | with_reducible assumption) (by omega) (by with_reducible assumption) ?_
      | refine Wp.aiN rfl (by assumption) rfl (by first | with_reducible rfl | with_reducible assumption) (by omega) ?_
      | refine Wp.siN rfl (by assumption) rfl (by first | with_reducible rfl | with_reducible assumption) (by omega) ?_
      | refine Wp.rt rfl rfl rfl rfl ?_
      | refine Wp.rz rfl rfl (by decide) ?_))
    refine Wp.V1i rfl g1 rfl (k_vcommand (d + 4) M.2.1 (Z := zO M) (by omega) (h.vK hr)).ev0 ?_
    rw [c_vb, c_vc, if_pos hs, if_pos hc, e2, e3]
    rw [c_vh, hs, e2, Bool.true_and, decide_eq_true_eq] at hc
    rw [if_neg hc]
    repeat' (first
      | (with_reducible refine Wp.lt (by omega) (by omega) (fun _ => ?_) (fun _ => ?_) <;> try (exfalso; omega))
      | (with_reducible refine Wp.le (by omega) (by omega) (fun _ => ?_) (fun _ => ?_) <;> try (exfalso; omega))
      | (with_reducible refine Wp.eq (by omega) (by omega) (fun _ => ?_) (fun _ => ?_) <;> try (exfalso; omega))
      | (with_reducible refine Wp.ne (by omega) (by omega) (fun _ => ?_) (fun _ => ?_) <;> try (exfalso; omega))
      | with_reducible refine Wp.lt0 (by omega) ?_
      | with_reducible refine Wp.ge0 (by omega) ?_
      | (with_reducible refine Wp.bz (fun _ => ?_) (fun _ => ?_) <;> try contradiction)
      | (with_reducible refine Wp.bn (fun _ => ?_) (fun _ => ?_) <;> try contradiction)
      | (with_reducible refine Wp.br (fun _ => ?_) (fun _ => ?_) <;> try contradiction)
      | refine Wp.gik rfl (by assumption) (by with_reducible assumption) ?_
      | refine Wp.gi rfl (by assumption) ?_
      | refine Wp.gz rfl (by assumption) ?_
      | refine Wp.gr rfl (by assumption) (by assumption) ?_
      | refine Wp.gn rfl (by assumption) (by assumption) ?_
      | refine Wp.gl rfl (by assumption) ?_
      | refine Wp.addn rfl (by with_reducible rfl) (by with_reducible rfl) ?_
      | refine Wp.muln rfl (by with_reducible rfl) (by with_reducible rfl) ?_
      | refine Wp.subn rfl (by with_reducible rfl) (by with_reducible rfl) (by omega) ?_
      | (refine Wp.decn rfl rfl ?_; dsimp only [List.set])
      | (refine Wp.incn rfl rfl ?_; dsimp only [List.set])
      | (refine Wp.go rfl rfl ?_; try dsimp only [List.set])
      | refine Wp.pi rfl (by assumption) ?_
      | refine Wp.pr rfl (by assumption) ?_
      | refine Wp.pn rfl (by assumption) ?_
      | refine Wp.pl rfl (by assumption) ?_
      | refine Wp.aik rfl (by assumption) rfl (by first | with_reducible rfl | with_reducible assumption) (by omega) (by with_reducible assumption) ?_
      | refine Wp.aiN rfl (by assumption) rfl (by first | with_reducible rfl | with_reducible assumption) (by omega) ?_
      | refine Wp.siN rfl (by assumption) rfl (by first | with_reducible rfl | with_reducible assumption) (by omega) ?_
      | refine Wp.rt rfl rfl rfl rfl ?_
      | refine Wp.rz rfl rfl (by decide) ?_)
    exact ⟨rfl, rfl⟩
set_option maxHeartbeats 4000000 in
theorem k_vot_n (d : Nat) {x y : Int32} (h : Rp M C) (hx : f_rep x = false ∨ y < nI 1 ∨ nI 24 < y) : Ev (d + 8) 92 M [.ref 0, .int x, .int y] (fun M' w => M' = M ∧ w = some (.int (-1))) := by
  refine Ev.of (ls := [some (.ref 0), some (.int x), some (.int y), none]) rfl rfl ?_
  repeat' ((with_reducible fail_if_success show Wp _ _ 1 _ _ _ _); (first
      | (with_reducible refine Wp.lt (by omega) (by omega) (fun _ => ?_) (fun _ => ?_) <;> try (exfalso; omega))
      | (with_reducible refine Wp.le (by omega) (by omega) (fun _ => ?_) (fun _ => ?_) <;> try (exfalso; omega))
      | (with_reducible refine Wp.eq (by omega) (by omega) (fun _ => ?_) (fun _ => ?_) <;> try (exfalso; omega))
      | (with_reducible refine Wp.ne (by omega) (by omega) (fun _ => ?_) (fun _ => ?_) <;> try (exfalso; omega))
      | with_reducible refine Wp.lt0 (by omega) ?_
      | with_reducible refine Wp.ge0 (by omega) ?_
      | (with_reducible refine Wp.bz (fun _ => ?_) (fun _ => ?_) <;> try contradiction)
      | (with_reducible refine Wp.bn (fun _ => ?_) (fun _ => ?_) <;> try contradiction)
      | (with_reducible refine Wp.br (fun _ => ?_) (fun _ => ?_) <;> try contradiction)
      | refine Wp.gik rfl (by assumption) (by with_reducible assumption) ?_
      | refine Wp.gi rfl (by assumption) ?_
      | refine Wp.gz rfl (by assumption) ?_
      | refine Wp.gr rfl (by assumption) (by assumption) ?_
      | refine Wp.gn rfl (by assumption) (by assumption) ?_
      | refine Wp.gl rfl (by assumption) ?_
      | refine Wp.addn rfl (by with_reducible rfl) (by with_reducible rfl) ?_
      | refine Wp.muln rfl (by with_reducible rfl) (by with_reducible rfl) ?_
      | refine Wp.subn rfl (by with_reducible rfl) (by with_reducible rfl) (by omega) ?_
      | (refine Wp.decn rfl rfl ?_; dsimp only [List.set])
      | (refine Wp.incn rfl rfl ?_; dsimp only [List.set])
      | (refine Wp.go rfl rfl ?_; try dsimp only [List.set])
      | refine Wp.pi rfl (by assumption) ?_
      | refine Wp.pr rfl (by assumption) ?_
      | refine Wp.pn rfl (by assumption) ?_
      | refine Wp.pl rfl (by assumption) ?_
      | refine Wp.aik rfl (by assumption) rfl (by first | with_reducible rfl | with_reducible assumption) (by omega) (by with_reducible assumption) ?_
      | refine Wp.aiN rfl (by assumption) rfl (by first | with_reducible rfl | with_reducible assumption) (by omega) ?_
      | refine Wp.siN rfl (by assumption) rfl (by first | with_reducible rfl | with_reducible assumption) (by omega) ?_
      | refine Wp.rt rfl rfl rfl rfl ?_
      | refine Wp.rz rfl rfl (by decide) ?_))
  refine Wp.S1i rfl rfl (k_isRep (d + 6) M.2.1 (Z := zO M) x).ev0 ?_
  iterate 2 (first
      | (with_reducible refine Wp.lt (by omega) (by omega) (fun _ => ?_) (fun _ => ?_) <;> try (exfalso; omega))
      | (with_reducible refine Wp.le (by omega) (by omega) (fun _ => ?_) (fun _ => ?_) <;> try (exfalso; omega))
      | (with_reducible refine Wp.eq (by omega) (by omega) (fun _ => ?_) (fun _ => ?_) <;> try (exfalso; omega))
      | (with_reducible refine Wp.ne (by omega) (by omega) (fun _ => ?_) (fun _ => ?_) <;> try (exfalso; omega))
      | with_reducible refine Wp.lt0 (by omega) ?_
      | with_reducible refine Wp.ge0 (by omega) ?_
      | (with_reducible refine Wp.bz (fun _ => ?_) (fun _ => ?_) <;> try contradiction)
      | (with_reducible refine Wp.bn (fun _ => ?_) (fun _ => ?_) <;> try contradiction)
      | (with_reducible refine Wp.br (fun _ => ?_) (fun _ => ?_) <;> try contradiction)
      | refine Wp.gik rfl (by assumption) (by with_reducible assumption) ?_
      | refine Wp.gi rfl (by assumption) ?_
      | refine Wp.gz rfl (by assumption) ?_
      | refine Wp.gr rfl (by assumption) (by assumption) ?_
      | refine Wp.gn rfl (by assumption) (by assumption) ?_
      | refine Wp.gl rfl (by assumption) ?_
      | refine Wp.addn rfl (by with_reducible rfl) (by with_reducible rfl) ?_
      | refine Wp.muln rfl (by with_reducible rfl) (by with_reducible rfl) ?_
      | refine Wp.subn rfl (by with_reducible rfl) (by with_reducible rfl) (by omega) ?_
      | (refine Wp.decn rfl rfl ?_; dsimp only [List.set])
      | (refine Wp.incn rfl rfl ?_; dsimp only [List.set])
      | (refine Wp.go rfl rfl ?_; try dsimp only [List.set])
      | refine Wp.pi rfl (by assumption) ?_
      | refine Wp.pr rfl (by assumption) ?_
      | refine Wp.pn rfl (by assumption) ?_
      | refine Wp.pl rfl (by assumption) ?_
      | refine Wp.aik rfl (by assumption) rfl (by first | with_reducible rfl | with_reducible assumption) (by omega) (by with_reducible assumption) ?_
      | refine Wp.aiN rfl (by assumption) rfl (by first | with_reducible rfl | with_reducible assumption) (by omega) ?_
      | refine Wp.siN rfl (by assumption) rfl (by first | with_reducible rfl | with_reducible assumption) (by omega) ?_
      | refine Wp.rt rfl rfl rfl rfl ?_
      | refine Wp.rz rfl rfl (by decide) ?_)
  · repeat' (first
      | (with_reducible refine Wp.lt (by omega) (by omega) (fun _ => ?_) (fun _ => ?_) <;> try (exfalso; omega))
      | (with_reducible refine Wp.le (by omega) (by omega) (fun _ => ?_) (fun _ => ?_) <;> try (exfalso; omega))
      | (with_reducible refine Wp.eq (by omega) (by omega) (fun _ => ?_) (fun _ => ?_) <;> try (exfalso; omega))
      | (with_reducible refine Wp.ne (by omega) (by omega) (fun _ => ?_) (fun _ => ?_) <;> try (exfalso; omega))
      | with_reducible refine Wp.lt0 (by omega) ?_
      | with_reducible refine Wp.ge0 (by omega) ?_
      | (with_reducible refine Wp.bz (fun _ => ?_) (fun _ => ?_) <;> try contradiction)
      | (with_reducible refine Wp.bn (fun _ => ?_) (fun _ => ?_) <;> try contradiction)
      | (with_reducible refine Wp.br (fun _ => ?_) (fun _ => ?_) <;> try contradiction)
      | refine Wp.gik rfl (by assumption) (by with_reducible assumption) ?_
      | refine Wp.gi rfl (by assumption) ?_
      | refine Wp.gz rfl (by assumption) ?_
      | refine Wp.gr rfl (by assumption) (by assumption) ?_
      | refine Wp.gn rfl (by assumption) (by assumption) ?_
      | refine Wp.gl rfl (by assumption) ?_
      | refine Wp.addn rfl (by with_reducible rfl) (by with_reducible rfl) ?_
      | refine Wp.muln rfl (by with_reducible rfl) (by with_reducible rfl) ?_
      | refine Wp.subn rfl (by with_reducible rfl) (by with_reducible rfl) (by omega) ?_
      | (refine Wp.decn rfl rfl ?_; dsimp only [List.set])
      | (refine Wp.incn rfl rfl ?_; dsimp only [List.set])
      | (refine Wp.go rfl rfl ?_; try dsimp only [List.set])
      | refine Wp.pi rfl (by assumption) ?_
      | refine Wp.pr rfl (by assumption) ?_
      | refine Wp.pn rfl (by assumption) ?_
      | refine Wp.pl rfl (by assumption) ?_
      | refine Wp.aik rfl (by assumption) rfl (by first | with_reducible rfl | with_reducible assumption) (by omega) (by with_reducible assumption) ?_
      | refine Wp.aiN rfl (by assumption) rfl (by first | with_reducible rfl | with_reducible assumption) (by omega) ?_
      | refine Wp.siN rfl (by assumption) rfl (by first | with_reducible rfl | with_reducible assumption) (by omega) ?_
      | refine Wp.rt rfl rfl rfl rfl ?_
      | refine Wp.rz rfl rfl (by decide) ?_)
    exact ⟨rfl, rfl⟩
  rename_i hf
  iterate 1 (first
      | (with_reducible refine Wp.lt (by omega) (by omega) (fun _ => ?_) (fun _ => ?_) <;> try (exfalso; omega))
      | (with_reducible refine Wp.le (by omega) (by omega) (fun _ => ?_) (fun _ => ?_) <;> try (exfalso; omega))
      | (with_reducible refine Wp.eq (by omega) (by omega) (fun _ => ?_) (fun _ => ?_) <;> try (exfalso; omega))
      | (with_reducible refine Wp.ne (by omega) (by omega) (fun _ => ?_) (fun _ => ?_) <;> try (exfalso; omega))
      | with_reducible refine Wp.lt0 (by omega) ?_
      | with_reducible refine Wp.ge0 (by omega) ?_
      | (with_reducible refine Wp.bz (fun _ => ?_) (fun _ => ?_) <;> try contradiction)
      | (with_reducible refine Wp.bn (fun _ => ?_) (fun _ => ?_) <;> try contradiction)
      | (with_reducible refine Wp.br (fun _ => ?_) (fun _ => ?_) <;> try contradiction)
      | refine Wp.gik rfl (by assumption) (by with_reducible assumption) ?_
      | refine Wp.gi rfl (by assumption) ?_
      | refine Wp.gz rfl (by assumption) ?_
      | refine Wp.gr rfl (by assumption) (by assumption) ?_
      | refine Wp.gn rfl (by assumption) (by assumption) ?_
      | refine Wp.gl rfl (by assumption) ?_
      | refine Wp.addn rfl (by with_reducible rfl) (by with_reducible rfl) ?_
      | refine Wp.muln rfl (by with_reducible rfl) (by with_reducible rfl) ?_
      | refine Wp.subn rfl (by with_reducible rfl) (by with_reducible rfl) (by omega) ?_
      | (refine Wp.decn rfl rfl ?_; dsimp only [List.set])
      | (refine Wp.incn rfl rfl ?_; dsimp only [List.set])
      | (refine Wp.go rfl rfl ?_; try dsimp only [List.set])
      | refine Wp.pi rfl (by assumption) ?_
      | refine Wp.pr rfl (by assumption) ?_
      | refine Wp.pn rfl (by assumption) ?_
      | refine Wp.pl rfl (by assumption) ?_
      | refine Wp.aik rfl (by assumption) rfl (by first | with_reducible rfl | with_reducible assumption) (by omega) (by with_reducible assumption) ?_
      | refine Wp.aiN rfl (by assumption) rfl (by first | with_reducible rfl | with_reducible assumption) (by omega) ?_
      | refine Wp.siN rfl (by assumption) rfl (by first | with_reducible rfl | with_reducible assumption) (by omega) ?_
      | refine Wp.rt rfl rfl rfl rfl ?_
      | refine Wp.rz rfl rfl (by decide) ?_)
  refine Wp.S1i rfl rfl (k_slotx (d + 6) M.2.1 (Z := zO M) y).ev0 ?_
  iterate 2 (first
      | (with_reducible refine Wp.lt (by omega) (by omega) (fun _ => ?_) (fun _ => ?_) <;> try (exfalso; omega))
      | (with_reducible refine Wp.le (by omega) (by omega) (fun _ => ?_) (fun _ => ?_) <;> try (exfalso; omega))
      | (with_reducible refine Wp.eq (by omega) (by omega) (fun _ => ?_) (fun _ => ?_) <;> try (exfalso; omega))
      | (with_reducible refine Wp.ne (by omega) (by omega) (fun _ => ?_) (fun _ => ?_) <;> try (exfalso; omega))
      | with_reducible refine Wp.lt0 (by omega) ?_
      | with_reducible refine Wp.ge0 (by omega) ?_
      | (with_reducible refine Wp.bz (fun _ => ?_) (fun _ => ?_) <;> try contradiction)
      | (with_reducible refine Wp.bn (fun _ => ?_) (fun _ => ?_) <;> try contradiction)
      | (with_reducible refine Wp.br (fun _ => ?_) (fun _ => ?_) <;> try contradiction)
      | refine Wp.gik rfl (by assumption) (by with_reducible assumption) ?_
      | refine Wp.gi rfl (by assumption) ?_
      | refine Wp.gz rfl (by assumption) ?_
      | refine Wp.gr rfl (by assumption) (by assumption) ?_
      | refine Wp.gn rfl (by assumption) (by assumption) ?_
      | refine Wp.gl rfl (by assumption) ?_
      | refine Wp.addn rfl (by with_reducible rfl) (by with_reducible rfl) ?_
      | refine Wp.muln rfl (by with_reducible rfl) (by with_reducible rfl) ?_
      | refine Wp.subn rfl (by with_reducible rfl) (by with_reducible rfl) (by omega) ?_
      | (refine Wp.decn rfl rfl ?_; dsimp only [List.set])
      | (refine Wp.incn rfl rfl ?_; dsimp only [List.set])
      | (refine Wp.go rfl rfl ?_; try dsimp only [List.set])
      | refine Wp.pi rfl (by assumption) ?_
      | refine Wp.pr rfl (by assumption) ?_
      | refine Wp.pn rfl (by assumption) ?_
      | refine Wp.pl rfl (by assumption) ?_
      | refine Wp.aik rfl (by assumption) rfl (by first | with_reducible rfl | with_reducible assumption) (by omega) (by with_reducible assumption) ?_
      | refine Wp.aiN rfl (by assumption) rfl (by first | with_reducible rfl | with_reducible assumption) (by omega) ?_
      | refine Wp.siN rfl (by assumption) rfl (by first | with_reducible rfl | with_reducible assumption) (by omega) ?_
      | refine Wp.rt rfl rfl rfl rfl ?_
      | refine Wp.rz rfl rfl (by decide) ?_)
  · rename_i hc
    exfalso
    rw [Bool.and_eq_true, decide_eq_true_eq, decide_eq_true_eq] at hc
    rcases hx with q | q | q
    · rw [hf] at q
      exact absurd q (by decide)
    · exact Int32.not_lt.mpr hc.1 q
    · exact Int32.not_lt.mpr hc.2 q
  · repeat' (first
      | (with_reducible refine Wp.lt (by omega) (by omega) (fun _ => ?_) (fun _ => ?_) <;> try (exfalso; omega))
      | (with_reducible refine Wp.le (by omega) (by omega) (fun _ => ?_) (fun _ => ?_) <;> try (exfalso; omega))
      | (with_reducible refine Wp.eq (by omega) (by omega) (fun _ => ?_) (fun _ => ?_) <;> try (exfalso; omega))
      | (with_reducible refine Wp.ne (by omega) (by omega) (fun _ => ?_) (fun _ => ?_) <;> try (exfalso; omega))
      | with_reducible refine Wp.lt0 (by omega) ?_
      | with_reducible refine Wp.ge0 (by omega) ?_
      | (with_reducible refine Wp.bz (fun _ => ?_) (fun _ => ?_) <;> try contradiction)
      | (with_reducible refine Wp.bn (fun _ => ?_) (fun _ => ?_) <;> try contradiction)
      | (with_reducible refine Wp.br (fun _ => ?_) (fun _ => ?_) <;> try contradiction)
      | refine Wp.gik rfl (by assumption) (by with_reducible assumption) ?_
      | refine Wp.gi rfl (by assumption) ?_
      | refine Wp.gz rfl (by assumption) ?_
      | refine Wp.gr rfl (by assumption) (by assumption) ?_
      | refine Wp.gn rfl (by assumption) (by assumption) ?_
      | refine Wp.gl rfl (by assumption) ?_
      | refine Wp.addn rfl (by with_reducible rfl) (by with_reducible rfl) ?_
      | refine Wp.muln rfl (by with_reducible rfl) (by with_reducible rfl) ?_
      | refine Wp.subn rfl (by with_reducible rfl) (by with_reducible rfl) (by omega) ?_
      | (refine Wp.decn rfl rfl ?_; dsimp only [List.set])
      | (refine Wp.incn rfl rfl ?_; dsimp only [List.set])
      | (refine Wp.go rfl rfl ?_; try dsimp only [List.set])
      | refine Wp.pi rfl (by assumption) ?_
      | refine Wp.pr rfl (by assumption) ?_
      | refine Wp.pn rfl (by assumption) ?_
      | refine Wp.pl rfl (by assumption) ?_
      | refine Wp.aik rfl (by assumption) rfl (by first | with_reducible rfl | with_reducible assumption) (by omega) (by with_reducible assumption) ?_
      | refine Wp.aiN rfl (by assumption) rfl (by first | with_reducible rfl | with_reducible assumption) (by omega) ?_
      | refine Wp.siN rfl (by assumption) rfl (by first | with_reducible rfl | with_reducible assumption) (by omega) ?_
      | refine Wp.rt rfl rfl rfl rfl ?_
      | refine Wp.rz rfl rfl (by decide) ?_)
    exact ⟨rfl, rfl⟩
set_option maxHeartbeats 4000000 in
theorem k_rpl (d : Nat) {q : Nat} (h : Rp M C) (h1 : 1 ≤ q) (h2 : q ≤ c_n C) : Ev (d + 8) 93 M [.ref 0, .int (nI q)] (fun M' w => M' = M ∧ w = some (.int (C.2.2.2.1 q 3))) := by
  obtain ⟨m1, m2, m3, m4, m5, m6, m7, m8⟩ := h.hm
  obtain ⟨n1, n2, qa, n3, n4⟩ := h.n
  obtain ⟨l1, l2, l3, l4, l5⟩ := n3 q h1 h2
  have l4' := l4 3
  refine Ev.of (ls := [some (.ref 0), some (.int (nI q)), none]) rfl rfl ?_
  repeat' ((with_reducible fail_if_success show Wp _ _ 5 _ _ _ _); (first
      | (with_reducible refine Wp.lt (by omega) (by omega) (fun _ => ?_) (fun _ => ?_) <;> try (exfalso; omega))
      | (with_reducible refine Wp.le (by omega) (by omega) (fun _ => ?_) (fun _ => ?_) <;> try (exfalso; omega))
      | (with_reducible refine Wp.eq (by omega) (by omega) (fun _ => ?_) (fun _ => ?_) <;> try (exfalso; omega))
      | (with_reducible refine Wp.ne (by omega) (by omega) (fun _ => ?_) (fun _ => ?_) <;> try (exfalso; omega))
      | with_reducible refine Wp.lt0 (by omega) ?_
      | with_reducible refine Wp.ge0 (by omega) ?_
      | (with_reducible refine Wp.bz (fun _ => ?_) (fun _ => ?_) <;> try contradiction)
      | (with_reducible refine Wp.bn (fun _ => ?_) (fun _ => ?_) <;> try contradiction)
      | (with_reducible refine Wp.br (fun _ => ?_) (fun _ => ?_) <;> try contradiction)
      | refine Wp.gik rfl (by assumption) (by with_reducible assumption) ?_
      | refine Wp.gi rfl (by assumption) ?_
      | refine Wp.gz rfl (by assumption) ?_
      | refine Wp.gr rfl (by assumption) (by assumption) ?_
      | refine Wp.gn rfl (by assumption) (by assumption) ?_
      | refine Wp.gl rfl (by assumption) ?_
      | refine Wp.addn rfl (by with_reducible rfl) (by with_reducible rfl) ?_
      | refine Wp.muln rfl (by with_reducible rfl) (by with_reducible rfl) ?_
      | refine Wp.subn rfl (by with_reducible rfl) (by with_reducible rfl) (by omega) ?_
      | (refine Wp.decn rfl rfl ?_; dsimp only [List.set])
      | (refine Wp.incn rfl rfl ?_; dsimp only [List.set])
      | (refine Wp.go rfl rfl ?_; try dsimp only [List.set])
      | refine Wp.pi rfl (by assumption) ?_
      | refine Wp.pr rfl (by assumption) ?_
      | refine Wp.pn rfl (by assumption) ?_
      | refine Wp.pl rfl (by assumption) ?_
      | refine Wp.aik rfl (by assumption) rfl (by first | with_reducible rfl | with_reducible assumption) (by omega) (by with_reducible assumption) ?_
      | refine Wp.aiN rfl (by assumption) rfl (by first | with_reducible rfl | with_reducible assumption) (by omega) ?_
      | refine Wp.siN rfl (by assumption) rfl (by first | with_reducible rfl | with_reducible assumption) (by omega) ?_
      | refine Wp.rt rfl rfl rfl rfl ?_
      | refine Wp.rz rfl rfl (by decide) ?_))
  refine Wp.V1i rfl m7 rfl (k_find (d + 6) M.2.1 (Z := zO M) h.2.2.1.2.2.1 h.cl n2 h1 h2 l1).ev0 ?_
  repeat' (first
      | (with_reducible refine Wp.lt (by omega) (by omega) (fun _ => ?_) (fun _ => ?_) <;> try (exfalso; omega))
      | (with_reducible refine Wp.le (by omega) (by omega) (fun _ => ?_) (fun _ => ?_) <;> try (exfalso; omega))
      | (with_reducible refine Wp.eq (by omega) (by omega) (fun _ => ?_) (fun _ => ?_) <;> try (exfalso; omega))
      | (with_reducible refine Wp.ne (by omega) (by omega) (fun _ => ?_) (fun _ => ?_) <;> try (exfalso; omega))
      | with_reducible refine Wp.lt0 (by omega) ?_
      | with_reducible refine Wp.ge0 (by omega) ?_
      | (with_reducible refine Wp.bz (fun _ => ?_) (fun _ => ?_) <;> try contradiction)
      | (with_reducible refine Wp.bn (fun _ => ?_) (fun _ => ?_) <;> try contradiction)
      | (with_reducible refine Wp.br (fun _ => ?_) (fun _ => ?_) <;> try contradiction)
      | refine Wp.gik rfl (by assumption) (by with_reducible assumption) ?_
      | refine Wp.gi rfl (by assumption) ?_
      | refine Wp.gz rfl (by assumption) ?_
      | refine Wp.gr rfl (by assumption) (by assumption) ?_
      | refine Wp.gn rfl (by assumption) (by assumption) ?_
      | refine Wp.gl rfl (by assumption) ?_
      | refine Wp.addn rfl (by with_reducible rfl) (by with_reducible rfl) ?_
      | refine Wp.muln rfl (by with_reducible rfl) (by with_reducible rfl) ?_
      | refine Wp.subn rfl (by with_reducible rfl) (by with_reducible rfl) (by omega) ?_
      | (refine Wp.decn rfl rfl ?_; dsimp only [List.set])
      | (refine Wp.incn rfl rfl ?_; dsimp only [List.set])
      | (refine Wp.go rfl rfl ?_; try dsimp only [List.set])
      | refine Wp.pi rfl (by assumption) ?_
      | refine Wp.pr rfl (by assumption) ?_
      | refine Wp.pn rfl (by assumption) ?_
      | refine Wp.pl rfl (by assumption) ?_
      | refine Wp.aik rfl (by assumption) rfl (by first | with_reducible rfl | with_reducible assumption) (by omega) (by with_reducible assumption) ?_
      | refine Wp.aiN rfl (by assumption) rfl (by first | with_reducible rfl | with_reducible assumption) (by omega) ?_
      | refine Wp.siN rfl (by assumption) rfl (by first | with_reducible rfl | with_reducible assumption) (by omega) ?_
      | refine Wp.rt rfl rfl rfl rfl ?_
      | refine Wp.rz rfl rfl (by decide) ?_)
  exact ⟨rfl, rfl⟩
set_option maxHeartbeats 4000000 in
theorem k_rpl_n (d : Nat) {x : Int32} (h : Rp M C) (hx : x < nI 1 ∨ nI (c_n C) < x) : Ev (d + 8) 93 M [.ref 0, .int x] (fun M' w => M' = M ∧ w = some (.int (nI 0))) := by
  obtain ⟨m1, m2, m3, m4, m5, m6, m7, m8⟩ := h.hm
  refine Ev.of (ls := [some (.ref 0), some (.int x), none]) rfl rfl ?_
  repeat' ((with_reducible fail_if_success show Wp _ _ 5 _ _ _ _); (first
      | (with_reducible refine Wp.lt (by omega) (by omega) (fun _ => ?_) (fun _ => ?_) <;> try (exfalso; omega))
      | (with_reducible refine Wp.le (by omega) (by omega) (fun _ => ?_) (fun _ => ?_) <;> try (exfalso; omega))
      | (with_reducible refine Wp.eq (by omega) (by omega) (fun _ => ?_) (fun _ => ?_) <;> try (exfalso; omega))
      | (with_reducible refine Wp.ne (by omega) (by omega) (fun _ => ?_) (fun _ => ?_) <;> try (exfalso; omega))
      | with_reducible refine Wp.lt0 (by omega) ?_
      | with_reducible refine Wp.ge0 (by omega) ?_
      | (with_reducible refine Wp.bz (fun _ => ?_) (fun _ => ?_) <;> try contradiction)
      | (with_reducible refine Wp.bn (fun _ => ?_) (fun _ => ?_) <;> try contradiction)
      | (with_reducible refine Wp.br (fun _ => ?_) (fun _ => ?_) <;> try contradiction)
      | refine Wp.gik rfl (by assumption) (by with_reducible assumption) ?_
      | refine Wp.gi rfl (by assumption) ?_
      | refine Wp.gz rfl (by assumption) ?_
      | refine Wp.gr rfl (by assumption) (by assumption) ?_
      | refine Wp.gn rfl (by assumption) (by assumption) ?_
      | refine Wp.gl rfl (by assumption) ?_
      | refine Wp.addn rfl (by with_reducible rfl) (by with_reducible rfl) ?_
      | refine Wp.muln rfl (by with_reducible rfl) (by with_reducible rfl) ?_
      | refine Wp.subn rfl (by with_reducible rfl) (by with_reducible rfl) (by omega) ?_
      | (refine Wp.decn rfl rfl ?_; dsimp only [List.set])
      | (refine Wp.incn rfl rfl ?_; dsimp only [List.set])
      | (refine Wp.go rfl rfl ?_; try dsimp only [List.set])
      | refine Wp.pi rfl (by assumption) ?_
      | refine Wp.pr rfl (by assumption) ?_
      | refine Wp.pn rfl (by assumption) ?_
      | refine Wp.pl rfl (by assumption) ?_
      | refine Wp.aik rfl (by assumption) rfl (by first | with_reducible rfl | with_reducible assumption) (by omega) (by with_reducible assumption) ?_
      | refine Wp.aiN rfl (by assumption) rfl (by first | with_reducible rfl | with_reducible assumption) (by omega) ?_
      | refine Wp.siN rfl (by assumption) rfl (by first | with_reducible rfl | with_reducible assumption) (by omega) ?_
      | refine Wp.rt rfl rfl rfl rfl ?_
      | refine Wp.rz rfl rfl (by decide) ?_))
  refine Wp.V1i rfl m7 rfl (k_find_n (d + 6) M.2.1 (Z := zO M) h.2.2.1.2.2.1 h.cl hx).ev0 ?_
  repeat' (first
      | (with_reducible refine Wp.lt (by omega) (by omega) (fun _ => ?_) (fun _ => ?_) <;> try (exfalso; omega))
      | (with_reducible refine Wp.le (by omega) (by omega) (fun _ => ?_) (fun _ => ?_) <;> try (exfalso; omega))
      | (with_reducible refine Wp.eq (by omega) (by omega) (fun _ => ?_) (fun _ => ?_) <;> try (exfalso; omega))
      | (with_reducible refine Wp.ne (by omega) (by omega) (fun _ => ?_) (fun _ => ?_) <;> try (exfalso; omega))
      | with_reducible refine Wp.lt0 (by omega) ?_
      | with_reducible refine Wp.ge0 (by omega) ?_
      | (with_reducible refine Wp.bz (fun _ => ?_) (fun _ => ?_) <;> try contradiction)
      | (with_reducible refine Wp.bn (fun _ => ?_) (fun _ => ?_) <;> try contradiction)
      | (with_reducible refine Wp.br (fun _ => ?_) (fun _ => ?_) <;> try contradiction)
      | refine Wp.gik rfl (by assumption) (by with_reducible assumption) ?_
      | refine Wp.gi rfl (by assumption) ?_
      | refine Wp.gz rfl (by assumption) ?_
      | refine Wp.gr rfl (by assumption) (by assumption) ?_
      | refine Wp.gn rfl (by assumption) (by assumption) ?_
      | refine Wp.gl rfl (by assumption) ?_
      | refine Wp.addn rfl (by with_reducible rfl) (by with_reducible rfl) ?_
      | refine Wp.muln rfl (by with_reducible rfl) (by with_reducible rfl) ?_
      | refine Wp.subn rfl (by with_reducible rfl) (by with_reducible rfl) (by omega) ?_
      | (refine Wp.decn rfl rfl ?_; dsimp only [List.set])
      | (refine Wp.incn rfl rfl ?_; dsimp only [List.set])
      | (refine Wp.go rfl rfl ?_; try dsimp only [List.set])
      | refine Wp.pi rfl (by assumption) ?_
      | refine Wp.pr rfl (by assumption) ?_
      | refine Wp.pn rfl (by assumption) ?_
      | refine Wp.pl rfl (by assumption) ?_
      | refine Wp.aik rfl (by assumption) rfl (by first | with_reducible rfl | with_reducible assumption) (by omega) (by with_reducible assumption) ?_
      | refine Wp.aiN rfl (by assumption) rfl (by first | with_reducible rfl | with_reducible assumption) (by omega) ?_
      | refine Wp.siN rfl (by assumption) rfl (by first | with_reducible rfl | with_reducible assumption) (by omega) ?_
      | refine Wp.rt rfl rfl rfl rfl ?_
      | refine Wp.rz rfl rfl (by decide) ?_)
  exact ⟨rfl, rfl⟩
set_option maxHeartbeats 4000000 in
theorem k_hrd (d : Nat) {q : Nat} (h : Rp M C) (h1 : 1 ≤ q) (h2 : q ≤ c_n C) : Ev (d + 8) 94 M [.ref 0, .int (nI q)] (fun M' w => M' = M ∧ w = some (.int (C.2.2.2.1 q 4))) := by
  obtain ⟨m1, m2, m3, m4, m5, m6, m7, m8⟩ := h.hm
  obtain ⟨n1, n2, qa, n3, n4⟩ := h.n
  obtain ⟨l1, l2, l3, l4, l5⟩ := n3 q h1 h2
  have l4' := l4 4
  refine Ev.of (ls := [some (.ref 0), some (.int (nI q)), none]) rfl rfl ?_
  repeat' ((with_reducible fail_if_success show Wp _ _ 5 _ _ _ _); (first
      | (with_reducible refine Wp.lt (by omega) (by omega) (fun _ => ?_) (fun _ => ?_) <;> try (exfalso; omega))
      | (with_reducible refine Wp.le (by omega) (by omega) (fun _ => ?_) (fun _ => ?_) <;> try (exfalso; omega))
      | (with_reducible refine Wp.eq (by omega) (by omega) (fun _ => ?_) (fun _ => ?_) <;> try (exfalso; omega))
      | (with_reducible refine Wp.ne (by omega) (by omega) (fun _ => ?_) (fun _ => ?_) <;> try (exfalso; omega))
      | with_reducible refine Wp.lt0 (by omega) ?_
      | with_reducible refine Wp.ge0 (by omega) ?_
      | (with_reducible refine Wp.bz (fun _ => ?_) (fun _ => ?_) <;> try contradiction)
      | (with_reducible refine Wp.bn (fun _ => ?_) (fun _ => ?_) <;> try contradiction)
      | (with_reducible refine Wp.br (fun _ => ?_) (fun _ => ?_) <;> try contradiction)
      | refine Wp.gik rfl (by assumption) (by with_reducible assumption) ?_
      | refine Wp.gi rfl (by assumption) ?_
      | refine Wp.gz rfl (by assumption) ?_
      | refine Wp.gr rfl (by assumption) (by assumption) ?_
      | refine Wp.gn rfl (by assumption) (by assumption) ?_
      | refine Wp.gl rfl (by assumption) ?_
      | refine Wp.addn rfl (by with_reducible rfl) (by with_reducible rfl) ?_
      | refine Wp.muln rfl (by with_reducible rfl) (by with_reducible rfl) ?_
      | refine Wp.subn rfl (by with_reducible rfl) (by with_reducible rfl) (by omega) ?_
      | (refine Wp.decn rfl rfl ?_; dsimp only [List.set])
      | (refine Wp.incn rfl rfl ?_; dsimp only [List.set])
      | (refine Wp.go rfl rfl ?_; try dsimp only [List.set])
      | refine Wp.pi rfl (by assumption) ?_
      | refine Wp.pr rfl (by assumption) ?_
      | refine Wp.pn rfl (by assumption) ?_
      | refine Wp.pl rfl (by assumption) ?_
      | refine Wp.aik rfl (by assumption) rfl (by first | with_reducible rfl | with_reducible assumption) (by omega) (by with_reducible assumption) ?_
      | refine Wp.aiN rfl (by assumption) rfl (by first | with_reducible rfl | with_reducible assumption) (by omega) ?_
      | refine Wp.siN rfl (by assumption) rfl (by first | with_reducible rfl | with_reducible assumption) (by omega) ?_
      | refine Wp.rt rfl rfl rfl rfl ?_
      | refine Wp.rz rfl rfl (by decide) ?_))
  refine Wp.V1i rfl m7 rfl (k_find (d + 6) M.2.1 (Z := zO M) h.2.2.1.2.2.1 h.cl n2 h1 h2 l1).ev0 ?_
  repeat' (first
      | (with_reducible refine Wp.lt (by omega) (by omega) (fun _ => ?_) (fun _ => ?_) <;> try (exfalso; omega))
      | (with_reducible refine Wp.le (by omega) (by omega) (fun _ => ?_) (fun _ => ?_) <;> try (exfalso; omega))
      | (with_reducible refine Wp.eq (by omega) (by omega) (fun _ => ?_) (fun _ => ?_) <;> try (exfalso; omega))
      | (with_reducible refine Wp.ne (by omega) (by omega) (fun _ => ?_) (fun _ => ?_) <;> try (exfalso; omega))
      | with_reducible refine Wp.lt0 (by omega) ?_
      | with_reducible refine Wp.ge0 (by omega) ?_
      | (with_reducible refine Wp.bz (fun _ => ?_) (fun _ => ?_) <;> try contradiction)
      | (with_reducible refine Wp.bn (fun _ => ?_) (fun _ => ?_) <;> try contradiction)
      | (with_reducible refine Wp.br (fun _ => ?_) (fun _ => ?_) <;> try contradiction)
      | refine Wp.gik rfl (by assumption) (by with_reducible assumption) ?_
      | refine Wp.gi rfl (by assumption) ?_
      | refine Wp.gz rfl (by assumption) ?_
      | refine Wp.gr rfl (by assumption) (by assumption) ?_
      | refine Wp.gn rfl (by assumption) (by assumption) ?_
      | refine Wp.gl rfl (by assumption) ?_
      | refine Wp.addn rfl (by with_reducible rfl) (by with_reducible rfl) ?_
      | refine Wp.muln rfl (by with_reducible rfl) (by with_reducible rfl) ?_
      | refine Wp.subn rfl (by with_reducible rfl) (by with_reducible rfl) (by omega) ?_
      | (refine Wp.decn rfl rfl ?_; dsimp only [List.set])
      | (refine Wp.incn rfl rfl ?_; dsimp only [List.set])
      | (refine Wp.go rfl rfl ?_; try dsimp only [List.set])
      | refine Wp.pi rfl (by assumption) ?_
      | refine Wp.pr rfl (by assumption) ?_
      | refine Wp.pn rfl (by assumption) ?_
      | refine Wp.pl rfl (by assumption) ?_
      | refine Wp.aik rfl (by assumption) rfl (by first | with_reducible rfl | with_reducible assumption) (by omega) (by with_reducible assumption) ?_
      | refine Wp.aiN rfl (by assumption) rfl (by first | with_reducible rfl | with_reducible assumption) (by omega) ?_
      | refine Wp.siN rfl (by assumption) rfl (by first | with_reducible rfl | with_reducible assumption) (by omega) ?_
      | refine Wp.rt rfl rfl rfl rfl ?_
      | refine Wp.rz rfl rfl (by decide) ?_)
  exact ⟨rfl, rfl⟩
set_option maxHeartbeats 4000000 in
theorem k_hrd_n (d : Nat) {x : Int32} (h : Rp M C) (hx : x < nI 1 ∨ nI (c_n C) < x) : Ev (d + 8) 94 M [.ref 0, .int x] (fun M' w => M' = M ∧ w = some (.int (nI 0))) := by
  obtain ⟨m1, m2, m3, m4, m5, m6, m7, m8⟩ := h.hm
  refine Ev.of (ls := [some (.ref 0), some (.int x), none]) rfl rfl ?_
  repeat' ((with_reducible fail_if_success show Wp _ _ 5 _ _ _ _); (first
      | (with_reducible refine Wp.lt (by omega) (by omega) (fun _ => ?_) (fun _ => ?_) <;> try (exfalso; omega))
      | (with_reducible refine Wp.le (by omega) (by omega) (fun _ => ?_) (fun _ => ?_) <;> try (exfalso; omega))
      | (with_reducible refine Wp.eq (by omega) (by omega) (fun _ => ?_) (fun _ => ?_) <;> try (exfalso; omega))
      | (with_reducible refine Wp.ne (by omega) (by omega) (fun _ => ?_) (fun _ => ?_) <;> try (exfalso; omega))
      | with_reducible refine Wp.lt0 (by omega) ?_
      | with_reducible refine Wp.ge0 (by omega) ?_
      | (with_reducible refine Wp.bz (fun _ => ?_) (fun _ => ?_) <;> try contradiction)
      | (with_reducible refine Wp.bn (fun _ => ?_) (fun _ => ?_) <;> try contradiction)
      | (with_reducible refine Wp.br (fun _ => ?_) (fun _ => ?_) <;> try contradiction)
      | refine Wp.gik rfl (by assumption) (by with_reducible assumption) ?_
      | refine Wp.gi rfl (by assumption) ?_
      | refine Wp.gz rfl (by assumption) ?_
      | refine Wp.gr rfl (by assumption) (by assumption) ?_
      | refine Wp.gn rfl (by assumption) (by assumption) ?_
      | refine Wp.gl rfl (by assumption) ?_
      | refine Wp.addn rfl (by with_reducible rfl) (by with_reducible rfl) ?_
      | refine Wp.muln rfl (by with_reducible rfl) (by with_reducible rfl) ?_
      | refine Wp.subn rfl (by with_reducible rfl) (by with_reducible rfl) (by omega) ?_
      | (refine Wp.decn rfl rfl ?_; dsimp only [List.set])
      | (refine Wp.incn rfl rfl ?_; dsimp only [List.set])
      | (refine Wp.go rfl rfl ?_; try dsimp only [List.set])
      | refine Wp.pi rfl (by assumption) ?_
      | refine Wp.pr rfl (by assumption) ?_
      | refine Wp.pn rfl (by assumption) ?_
      | refine Wp.pl rfl (by assumption) ?_
      | refine Wp.aik rfl (by assumption) rfl (by first | with_reducible rfl | with_reducible assumption) (by omega) (by with_reducible assumption) ?_
      | refine Wp.aiN rfl (by assumption) rfl (by first | with_reducible rfl | with_reducible assumption) (by omega) ?_
      | refine Wp.siN rfl (by assumption) rfl (by first | with_reducible rfl | with_reducible assumption) (by omega) ?_
      | refine Wp.rt rfl rfl rfl rfl ?_
      | refine Wp.rz rfl rfl (by decide) ?_))
  refine Wp.V1i rfl m7 rfl (k_find_n (d + 6) M.2.1 (Z := zO M) h.2.2.1.2.2.1 h.cl hx).ev0 ?_
  repeat' (first
      | (with_reducible refine Wp.lt (by omega) (by omega) (fun _ => ?_) (fun _ => ?_) <;> try (exfalso; omega))
      | (with_reducible refine Wp.le (by omega) (by omega) (fun _ => ?_) (fun _ => ?_) <;> try (exfalso; omega))
      | (with_reducible refine Wp.eq (by omega) (by omega) (fun _ => ?_) (fun _ => ?_) <;> try (exfalso; omega))
      | (with_reducible refine Wp.ne (by omega) (by omega) (fun _ => ?_) (fun _ => ?_) <;> try (exfalso; omega))
      | with_reducible refine Wp.lt0 (by omega) ?_
      | with_reducible refine Wp.ge0 (by omega) ?_
      | (with_reducible refine Wp.bz (fun _ => ?_) (fun _ => ?_) <;> try contradiction)
      | (with_reducible refine Wp.bn (fun _ => ?_) (fun _ => ?_) <;> try contradiction)
      | (with_reducible refine Wp.br (fun _ => ?_) (fun _ => ?_) <;> try contradiction)
      | refine Wp.gik rfl (by assumption) (by with_reducible assumption) ?_
      | refine Wp.gi rfl (by assumption) ?_
      | refine Wp.gz rfl (by assumption) ?_
      | refine Wp.gr rfl (by assumption) (by assumption) ?_
      | refine Wp.gn rfl (by assumption) (by assumption) ?_
      | refine Wp.gl rfl (by assumption) ?_
      | refine Wp.addn rfl (by with_reducible rfl) (by with_reducible rfl) ?_
      | refine Wp.muln rfl (by with_reducible rfl) (by with_reducible rfl) ?_
      | refine Wp.subn rfl (by with_reducible rfl) (by with_reducible rfl) (by omega) ?_
      | (refine Wp.decn rfl rfl ?_; dsimp only [List.set])
      | (refine Wp.incn rfl rfl ?_; dsimp only [List.set])
      | (refine Wp.go rfl rfl ?_; try dsimp only [List.set])
      | refine Wp.pi rfl (by assumption) ?_
      | refine Wp.pr rfl (by assumption) ?_
      | refine Wp.pn rfl (by assumption) ?_
      | refine Wp.pl rfl (by assumption) ?_
      | refine Wp.aik rfl (by assumption) rfl (by first | with_reducible rfl | with_reducible assumption) (by omega) (by with_reducible assumption) ?_
      | refine Wp.aiN rfl (by assumption) rfl (by first | with_reducible rfl | with_reducible assumption) (by omega) ?_
      | refine Wp.siN rfl (by assumption) rfl (by first | with_reducible rfl | with_reducible assumption) (by omega) ?_
      | refine Wp.rt rfl rfl rfl rfl ?_
      | refine Wp.rz rfl rfl (by decide) ?_)
  exact ⟨rfl, rfl⟩
end FACD
