/-! the class: its face, second part -/
section FACB
variable {M M1 : xM} {C C1 : xCC} {r : Nat} {s a : Nat} {S : xS} {m : xG}
set_option maxHeartbeats 4000000 in
theorem k_ask_n (d : Nat) (h : Rp M C) {x y v : Int32} (hb : x < 0 ∨ nI 4 < x ∨ y < 0 ∨ nI 3 < y ∨ c_n C = 40 ∨ (x = nI 4 ∧ (v < 0 ∨ nI 31 < v ∨ f_cnt v < nI 2))) : Ev (d + 3) 74 M [.ref 0, .int x, .int y, .int v] (fun M' w => Rp M' C ∧ Ext 1 M M' ∧ w = some (.int (-1))) := by
  refine Ev.of (ls := [some (.ref 0), some (.int x), some (.int y), some (.int v)]) rfl rfl ?_
  iterate 1 (first
      | (with_reducible refine Wp.lt (by omega) (by omega) (fun _ => ?_) (fun _ => ?_) <;> try (exfalso; omega))
      | (with_reducible refine Wp.le (by omega) (by omega) (fun _ => ?_) (fun _ => ?_) <;> try (exfalso; omega))
      | (with_reducible refine Wp.eq (by omega) (by omega) (fun _ => ?_) (fun _ => ?_) <;> try (exfalso; omega))
      | (with_reducible refine Wp.ne (by omega) (by omega) (fun _ => ?_) (fun _ => ?_) <;> try (exfalso; omega))
      | with_reducible refine Wp.lt0 (by omega) ?_
      | with_reducible refine Wp.ge0 (by omega) ?_
      | (with_reducible refine Wp.bz (fun _ => ?_) (fun _ => ?_) <;> try contradiction)
      | (with_reducible refine Wp.bn (fun _ => ?_) (fun _ => ?_) <;> try contradiction)
      | (with_reducible refine Wp.br (fun _ => ?_) (fun _ => ?_) <;> try contradiction)
      | refine Wp.gik rfl (by assumption) (by with_reducible assumption) ?_
      | refine Wp.gi rfl (by assumption) ?_
      | refine Wp.gz rfl (by assumption) ?_
      | refine Wp.gr rfl (by assumption) (by assumption) ?_
      | refine Wp.gn rfl (by assumption) (by assumption) ?_
      | refine Wp.gl rfl (by assumption) ?_
      | refine Wp.addn rfl (by with_reducible rfl) (by with_reducible rfl) ?_
      | refine Wp.muln rfl (by with_reducible rfl) (by with_reducible rfl) ?_
      | refine Wp.subn rfl (by with_reducible rfl) (by with_reducible rfl) (by omega) ?_
      | (refine Wp.decn rfl rfl ?_; dsimp only [List.set])
      | (refine Wp.incn rfl rfl ?_; dsimp only [List.set])
      | (refine Wp.go rfl rfl ?_; try dsimp only [List.set])
      | refine Wp.pi rfl (by assumption) ?_
      | refine Wp.pr rfl (by assumption) ?_
      | refine Wp.pn rfl (by assumption) ?_
      | refine Wp.pl rfl (by assumption) ?_
      | refine Wp.aik rfl (by assumption) rfl (by first | with_reducible rfl | with_reducible assumption) (by omega) (by with_reducible assumption) ?_
      | refine Wp.aiN rfl (by assumption) rfl (by first | with_reducible rfl | with_reducible assumption) (by omega) ?_
      | refine Wp.siN rfl (by assumption) rfl (by first | with_reducible rfl | with_reducible assumption) (by omega) ?_
      | refine Wp.rt rfl rfl rfl rfl ?_
      | refine Wp.rz rfl rfl (by decide) ?_)
  iterate 1 (first
      | (with_reducible refine Wp.lt (by omega) (by omega) (fun _ => ?_) (fun _ => ?_) <;> try (exfalso; omega))
      | (with_reducible refine Wp.le (by omega) (by omega) (fun _ => ?_) (fun _ => ?_) <;> try (exfalso; omega))
      | (with_reducible refine Wp.eq (by omega) (by omega) (fun _ => ?_) (fun _ => ?_) <;> try (exfalso; omega))
      | (with_reducible refine Wp.ne (by omega) (by omega) (fun _ => ?_) (fun _ => ?_) <;> try (exfalso; omega))
      | with_reducible refine Wp.lt0 (by omega) ?_
      | with_reducible refine Wp.ge0 (by omega) ?_
      | (with_reducible refine Wp.bz (fun _ => ?_) (fun _ => ?_) <;> try contradiction)
      | (with_reducible refine Wp.bn (fun _ => ?_) (fun _ => ?_) <;> try contradiction)
      | (with_reducible refine Wp.br (fun _ => ?_) (fun _ => ?_) <;> try contradiction)
      | refine Wp.gik rfl (by assumption) (by with_reducible assumption) ?_
      | refine Wp.gi rfl (by assumption) ?_
      | refine Wp.gz rfl (by assumption) ?_
      | refine Wp.gr rfl (by assumption) (by assumption) ?_
      | refine Wp.gn rfl (by assumption) (by assumption) ?_
      | refine Wp.gl rfl (by assumption) ?_
      | refine Wp.addn rfl (by with_reducible rfl) (by with_reducible rfl) ?_
      | refine Wp.muln rfl (by with_reducible rfl) (by with_reducible rfl) ?_
      | refine Wp.subn rfl (by with_reducible rfl) (by with_reducible rfl) (by omega) ?_
      | (refine Wp.decn rfl rfl ?_; dsimp only [List.set])
      | (refine Wp.incn rfl rfl ?_; dsimp only [List.set])
      | (refine Wp.go rfl rfl ?_; try dsimp only [List.set])
      | refine Wp.pi rfl (by assumption) ?_
      | refine Wp.pr rfl (by assumption) ?_
      | refine Wp.pn rfl (by assumption) ?_
      | refine Wp.pl rfl (by assumption) ?_
      | refine Wp.aik rfl (by assumption) rfl (by first | with_reducible rfl | with_reducible assumption) (by omega) (by with_reducible assumption) ?_
      | refine Wp.aiN rfl (by assumption) rfl (by first | with_reducible rfl | with_reducible assumption) (by omega) ?_
      | refine Wp.siN rfl (by assumption) rfl (by first | with_reducible rfl | with_reducible assumption) (by omega) ?_
      | refine Wp.rt rfl rfl rfl rfl ?_
      | refine Wp.rz rfl rfl (by decide) ?_)
  refine Wp.br (fun h1 => ?_) (fun h1 => ?_)
  · repeat' (first
      | (with_reducible refine Wp.lt (by omega) (by omega) (fun _ => ?_) (fun _ => ?_) <;> try (exfalso; omega))
      | (with_reducible refine Wp.le (by omega) (by omega) (fun _ => ?_) (fun _ => ?_) <;> try (exfalso; omega))
      | (with_reducible refine Wp.eq (by omega) (by omega) (fun _ => ?_) (fun _ => ?_) <;> try (exfalso; omega))
      | (with_reducible refine Wp.ne (by omega) (by omega) (fun _ => ?_) (fun _ => ?_) <;> try (exfalso; omega))
      | with_reducible refine Wp.lt0 (by omega) ?_
      | with_reducible refine Wp.ge0 (by omega) ?_
      | (with_reducible refine Wp.bz (fun _ => ?_) (fun _ => ?_) <;> try contradiction)
      | (with_reducible refine Wp.bn (fun _ => ?_) (fun _ => ?_) <;> try contradiction)
      | (with_reducible refine Wp.br (fun _ => ?_) (fun _ => ?_) <;> try contradiction)
      | refine Wp.gik rfl (by assumption) (by with_reducible assumption) ?_
      | refine Wp.gi rfl (by assumption) ?_
      | refine Wp.gz rfl (by assumption) ?_
      | refine Wp.gr rfl (by assumption) (by assumption) ?_
      | refine Wp.gn rfl (by assumption) (by assumption) ?_
      | refine Wp.gl rfl (by assumption) ?_
      | refine Wp.addn rfl (by with_reducible rfl) (by with_reducible rfl) ?_
      | refine Wp.muln rfl (by with_reducible rfl) (by with_reducible rfl) ?_
      | refine Wp.subn rfl (by with_reducible rfl) (by with_reducible rfl) (by omega) ?_
      | (refine Wp.decn rfl rfl ?_; dsimp only [List.set])
      | (refine Wp.incn rfl rfl ?_; dsimp only [List.set])
      | (refine Wp.go rfl rfl ?_; try dsimp only [List.set])
      | refine Wp.pi rfl (by assumption) ?_
      | refine Wp.pr rfl (by assumption) ?_
      | refine Wp.pn rfl (by assumption) ?_
      | refine Wp.pl rfl (by assumption) ?_
      | refine Wp.aik rfl (by assumption) rfl (by first | with_reducible rfl | with_reducible assumption) (by omega) (by with_reducible assumption) ?_
      | refine Wp.aiN rfl (by assumption) rfl (by first | with_reducible rfl | with_reducible assumption) (by omega) ?_
      | refine Wp.siN rfl (by assumption) rfl (by first | with_reducible rfl | with_reducible assumption) (by omega) ?_
      | refine Wp.rt rfl rfl rfl rfl ?_
      | refine Wp.rz rfl rfl (by decide) ?_)
    exact ⟨h, (Ext.refl M).up (by decide), rfl⟩
  iterate 2 (first
      | (with_reducible refine Wp.lt (by omega) (by omega) (fun _ => ?_) (fun _ => ?_) <;> try (exfalso; omega))
      | (with_reducible refine Wp.le (by omega) (by omega) (fun _ => ?_) (fun _ => ?_) <;> try (exfalso; omega))
      | (with_reducible refine Wp.eq (by omega) (by omega) (fun _ => ?_) (fun _ => ?_) <;> try (exfalso; omega))
      | (with_reducible refine Wp.ne (by omega) (by omega) (fun _ => ?_) (fun _ => ?_) <;> try (exfalso; omega))
      | with_reducible refine Wp.lt0 (by omega) ?_
      | with_reducible refine Wp.ge0 (by omega) ?_
      | (with_reducible refine Wp.bz (fun _ => ?_) (fun _ => ?_) <;> try contradiction)
      | (with_reducible refine Wp.bn (fun _ => ?_) (fun _ => ?_) <;> try contradiction)
      | (with_reducible refine Wp.br (fun _ => ?_) (fun _ => ?_) <;> try contradiction)
      | refine Wp.gik rfl (by assumption) (by with_reducible assumption) ?_
      | refine Wp.gi rfl (by assumption) ?_
      | refine Wp.gz rfl (by assumption) ?_
      | refine Wp.gr rfl (by assumption) (by assumption) ?_
      | refine Wp.gn rfl (by assumption) (by assumption) ?_
      | refine Wp.gl rfl (by assumption) ?_
      | refine Wp.addn rfl (by with_reducible rfl) (by with_reducible rfl) ?_
      | refine Wp.muln rfl (by with_reducible rfl) (by with_reducible rfl) ?_
      | refine Wp.subn rfl (by with_reducible rfl) (by with_reducible rfl) (by omega) ?_
      | (refine Wp.decn rfl rfl ?_; dsimp only [List.set])
      | (refine Wp.incn rfl rfl ?_; dsimp only [List.set])
      | (refine Wp.go rfl rfl ?_; try dsimp only [List.set])
      | refine Wp.pi rfl (by assumption) ?_
      | refine Wp.pr rfl (by assumption) ?_
      | refine Wp.pn rfl (by assumption) ?_
      | refine Wp.pl rfl (by assumption) ?_
      | refine Wp.aik rfl (by assumption) rfl (by first | with_reducible rfl | with_reducible assumption) (by omega) (by with_reducible assumption) ?_
      | refine Wp.aiN rfl (by assumption) rfl (by first | with_reducible rfl | with_reducible assumption) (by omega) ?_
      | refine Wp.siN rfl (by assumption) rfl (by first | with_reducible rfl | with_reducible assumption) (by omega) ?_
      | refine Wp.rt rfl rfl rfl rfl ?_
      | refine Wp.rz rfl rfl (by decide) ?_)
  iterate 1 (first
      | (with_reducible refine Wp.lt (by omega) (by omega) (fun _ => ?_) (fun _ => ?_) <;> try (exfalso; omega))
      | (with_reducible refine Wp.le (by omega) (by omega) (fun _ => ?_) (fun _ => ?_) <;> try (exfalso; omega))
      | (with_reducible refine Wp.eq (by omega) (by omega) (fun _ => ?_) (fun _ => ?_) <;> try (exfalso; omega))
      | (with_reducible refine Wp.ne (by omega) (by omega) (fun _ => ?_) (fun _ => ?_) <;> try (exfalso; omega))
      | with_reducible refine Wp.lt0 (by omega) ?_
      | with_reducible refine Wp.ge0 (by omega) ?_
      | (with_reducible refine Wp.bz (fun _ => ?_) (fun _ => ?_) <;> try contradiction)
      | (with_reducible refine Wp.bn (fun _ => ?_) (fun _ => ?_) <;> try contradiction)
      | (with_reducible refine Wp.br (fun _ => ?_) (fun _ => ?_) <;> try contradiction)
      | refine Wp.gik rfl (by assumption) (by with_reducible assumption) ?_
      | refine Wp.gi rfl (by assumption) ?_
      | refine Wp.gz rfl (by assumption) ?_
      | refine Wp.gr rfl (by assumption) (by assumption) ?_
      | refine Wp.gn rfl (by assumption) (by assumption) ?_
      | refine Wp.gl rfl (by assumption) ?_
      | refine Wp.addn rfl (by with_reducible rfl) (by with_reducible rfl) ?_
      | refine Wp.muln rfl (by with_reducible rfl) (by with_reducible rfl) ?_
      | refine Wp.subn rfl (by with_reducible rfl) (by with_reducible rfl) (by omega) ?_
      | (refine Wp.decn rfl rfl ?_; dsimp only [List.set])
      | (refine Wp.incn rfl rfl ?_; dsimp only [List.set])
      | (refine Wp.go rfl rfl ?_; try dsimp only [List.set])
      | refine Wp.pi rfl (by assumption) ?_
      | refine Wp.pr rfl (by assumption) ?_
      | refine Wp.pn rfl (by assumption) ?_
      | refine Wp.pl rfl (by assumption) ?_
      | refine Wp.aik rfl (by assumption) rfl (by first | with_reducible rfl | with_reducible assumption) (by omega) (by with_reducible assumption) ?_
      | refine Wp.aiN rfl (by assumption) rfl (by first | with_reducible rfl | with_reducible assumption) (by omega) ?_
      | refine Wp.siN rfl (by assumption) rfl (by first | with_reducible rfl | with_reducible assumption) (by omega) ?_
      | refine Wp.rt rfl rfl rfl rfl ?_
      | refine Wp.rz rfl rfl (by decide) ?_)
  refine Wp.br (fun h2 => ?_) (fun h2 => ?_)
  · repeat' (first
      | (with_reducible refine Wp.lt (by omega) (by omega) (fun _ => ?_) (fun _ => ?_) <;> try (exfalso; omega))
      | (with_reducible refine Wp.le (by omega) (by omega) (fun _ => ?_) (fun _ => ?_) <;> try (exfalso; omega))
      | (with_reducible refine Wp.eq (by omega) (by omega) (fun _ => ?_) (fun _ => ?_) <;> try (exfalso; omega))
      | (with_reducible refine Wp.ne (by omega) (by omega) (fun _ => ?_) (fun _ => ?_) <;> try (exfalso; omega))
      | with_reducible refine Wp.lt0 (by omega) ?_
      | with_reducible refine Wp.ge0 (by omega) ?_
      | (with_reducible refine Wp.bz (fun _ => ?_) (fun _ => ?_) <;> try contradiction)
      | (with_reducible refine Wp.bn (fun _ => ?_) (fun _ => ?_) <;> try contradiction)
      | (with_reducible refine Wp.br (fun _ => ?_) (fun _ => ?_) <;> try contradiction)
      | refine Wp.gik rfl (by assumption) (by with_reducible assumption) ?_
      | refine Wp.gi rfl (by assumption) ?_
      | refine Wp.gz rfl (by assumption) ?_
      | refine Wp.gr rfl (by assumption) (by assumption) ?_
      | refine Wp.gn rfl (by assumption) (by assumption) ?_
      | refine Wp.gl rfl (by assumption) ?_
      | refine Wp.addn rfl (by with_reducible rfl) (by with_reducible rfl) ?_
      | refine Wp.muln rfl (by with_reducible rfl) (by with_reducible rfl) ?_
      | refine Wp.subn rfl (by with_reducible rfl) (by with_reducible rfl) (by omega) ?_
      | (refine Wp.decn rfl rfl ?_; dsimp only [List.set])
      | (refine Wp.incn rfl rfl ?_; dsimp only [List.set])
      | (refine Wp.go rfl rfl ?_; try dsimp only [List.set])
      | refine Wp.pi rfl (by assumption) ?_
      | refine Wp.pr rfl (by assumption) ?_
      | refine Wp.pn rfl (by assumption) ?_
      | refine Wp.pl rfl (by assumption) ?_
      | refine Wp.aik rfl (by assumption) rfl (by first | with_reducible rfl | with_reducible assumption) (by omega) (by with_reducible assumption) ?_
      | refine Wp.aiN rfl (by assumption) rfl (by first | with_reducible rfl | with_reducible assumption) (by omega) ?_
      | refine Wp.siN rfl (by assumption) rfl (by first | with_reducible rfl | with_reducible assumption) (by omega) ?_
      | refine Wp.rt rfl rfl rfl rfl ?_
      | refine Wp.rz rfl rfl (by decide) ?_)
    exact ⟨h, (Ext.refl M).up (by decide), rfl⟩
  iterate 1 (first
      | (with_reducible refine Wp.lt (by omega) (by omega) (fun _ => ?_) (fun _ => ?_) <;> try (exfalso; omega))
      | (with_reducible refine Wp.le (by omega) (by omega) (fun _ => ?_) (fun _ => ?_) <;> try (exfalso; omega))
      | (with_reducible refine Wp.eq (by omega) (by omega) (fun _ => ?_) (fun _ => ?_) <;> try (exfalso; omega))
      | (with_reducible refine Wp.ne (by omega) (by omega) (fun _ => ?_) (fun _ => ?_) <;> try (exfalso; omega))
      | with_reducible refine Wp.lt0 (by omega) ?_
      | with_reducible refine Wp.ge0 (by omega) ?_
      | (with_reducible refine Wp.bz (fun _ => ?_) (fun _ => ?_) <;> try contradiction)
      | (with_reducible refine Wp.bn (fun _ => ?_) (fun _ => ?_) <;> try contradiction)
      | (with_reducible refine Wp.br (fun _ => ?_) (fun _ => ?_) <;> try contradiction)
      | refine Wp.gik rfl (by assumption) (by with_reducible assumption) ?_
      | refine Wp.gi rfl (by assumption) ?_
      | refine Wp.gz rfl (by assumption) ?_
      | refine Wp.gr rfl (by assumption) (by assumption) ?_
      | refine Wp.gn rfl (by assumption) (by assumption) ?_
      | refine Wp.gl rfl (by assumption) ?_
      | refine Wp.addn rfl (by with_reducible rfl) (by with_reducible rfl) ?_
      | refine Wp.muln rfl (by with_reducible rfl) (by with_reducible rfl) ?_
      | refine Wp.subn rfl (by with_reducible rfl) (by with_reducible rfl) (by omega) ?_
      | (refine Wp.decn rfl rfl ?_; dsimp only [List.set])
      | (refine Wp.incn rfl rfl ?_; dsimp only [List.set])
      | (refine Wp.go rfl rfl ?_; try dsimp only [List.set])
      | refine Wp.pi rfl (by assumption) ?_
      | refine Wp.pr rfl (by assumption) ?_
      | refine Wp.pn rfl (by assumption) ?_
      | refine Wp.pl rfl (by assumption) ?_
      | refine Wp.aik rfl (by assumption) rfl (by first | with_reducible rfl | with_reducible assumption) (by omega) (by with_reducible assumption) ?_
      | refine Wp.aiN rfl (by assumption) rfl (by first | with_reducible rfl | with_reducible assumption) (by omega) ?_
      | refine Wp.siN rfl (by assumption) rfl (by first | with_reducible rfl | with_reducible assumption) (by omega) ?_
      | refine Wp.rt rfl rfl rfl rfl ?_
      | refine Wp.rz rfl rfl (by decide) ?_)
  iterate 1 (first
      | (with_reducible refine Wp.lt (by omega) (by omega) (fun _ => ?_) (fun _ => ?_) <;> try (exfalso; omega))
      | (with_reducible refine Wp.le (by omega) (by omega) (fun _ => ?_) (fun _ => ?_) <;> try (exfalso; omega))
      | (with_reducible refine Wp.eq (by omega) (by omega) (fun _ => ?_) (fun _ => ?_) <;> try (exfalso; omega))
      | (with_reducible refine Wp.ne (by omega) (by omega) (fun _ => ?_) (fun _ => ?_) <;> try (exfalso; omega))
      | with_reducible refine Wp.lt0 (by omega) ?_
      | with_reducible refine Wp.ge0 (by omega) ?_
      | (with_reducible refine Wp.bz (fun _ => ?_) (fun _ => ?_) <;> try contradiction)
      | (with_reducible refine Wp.bn (fun _ => ?_) (fun _ => ?_) <;> try contradiction)
      | (with_reducible refine Wp.br (fun _ => ?_) (fun _ => ?_) <;> try contradiction)
      | refine Wp.gik rfl (by assumption) (by with_reducible assumption) ?_
      | refine Wp.gi rfl (by assumption) ?_
      | refine Wp.gz rfl (by assumption) ?_
      | refine Wp.gr rfl (by assumption) (by assumption) ?_
      | refine Wp.gn rfl (by assumption) (by assumption) ?_
      | refine Wp.gl rfl (by assumption) ?_
      | refine Wp.addn rfl (by with_reducible rfl) (by with_reducible rfl) ?_
      | refine Wp.muln rfl (by with_reducible rfl) (by with_reducible rfl) ?_
      | refine Wp.subn rfl (by with_reducible rfl) (by with_reducible rfl) (by omega) ?_
      | (refine Wp.decn rfl rfl ?_; dsimp only [List.set])
      | (refine Wp.incn rfl rfl ?_; dsimp only [List.set])
      | (refine Wp.go rfl rfl ?_; try dsimp only [List.set])
      | refine Wp.pi rfl (by assumption) ?_
      | refine Wp.pr rfl (by assumption) ?_
      | refine Wp.pn rfl (by assumption) ?_
      | refine Wp.pl rfl (by assumption) ?_
      | refine Wp.aik rfl (by assumption) rfl (by first | with_reducible rfl | with_reducible assumption) (by omega) (by with_reducible assumption) ?_
      | refine Wp.aiN rfl (by assumption) rfl (by first | with_reducible rfl | with_reducible assumption) (by omega) ?_
      | refine Wp.siN rfl (by assumption) rfl (by first | with_reducible rfl | with_reducible assumption) (by omega) ?_
      | refine Wp.rt rfl rfl rfl rfl ?_
      | refine Wp.rz rfl rfl (by decide) ?_)
  refine Wp.br (fun h3 => ?_) (fun h3 => ?_)
  · repeat' (first
      | (with_reducible refine Wp.lt (by omega) (by omega) (fun _ => ?_) (fun _ => ?_) <;> try (exfalso; omega))
      | (with_reducible refine Wp.le (by omega) (by omega) (fun _ => ?_) (fun _ => ?_) <;> try (exfalso; omega))
      | (with_reducible refine Wp.eq (by omega) (by omega) (fun _ => ?_) (fun _ => ?_) <;> try (exfalso; omega))
      | (with_reducible refine Wp.ne (by omega) (by omega) (fun _ => ?_) (fun _ => ?_) <;> try (exfalso; omega))
      | with_reducible refine Wp.lt0 (by omega) ?_
      | with_reducible refine Wp.ge0 (by omega) ?_
      | (with_reducible refine Wp.bz (fun _ => ?_) (fun _ => ?_) <;> try contradiction)
      | (with_reducible refine Wp.bn (fun _ => ?_) (fun _ => ?_) <;> try contradiction)
      | (with_reducible refine Wp.br (fun _ => ?_) (fun _ => ?_) <;> try contradiction)
      | refine Wp.gik rfl (by assumption) (by with_reducible assumption) ?_
      | refine Wp.gi rfl (by assumption) ?_
      | refine Wp.gz rfl (by assumption) ?_
      | refine Wp.gr rfl (by assumption) (by assumption) ?_
      | refine Wp.gn rfl (by assumption) (by assumption) ?_
      | refine Wp.gl rfl (by assumption) ?_
      | refine Wp.addn rfl (by with_reducible rfl) (by with_reducible rfl) ?_
      | refine Wp.muln rfl (by with_reducible rfl) (by with_reducible rfl) ?_
      | refine Wp.subn rfl (by with_reducible rfl) (by with_reducible rfl) (by omega) ?_
      | (refine Wp.decn rfl rfl ?_; dsimp only [List.set])
      | (refine Wp.incn rfl rfl ?_; dsimp only [List.set])
      | (refine Wp.go rfl rfl ?_; try dsimp only [List.set])
      | refine Wp.pi rfl (by assumption) ?_
      | refine Wp.pr rfl (by assumption) ?_
      | refine Wp.pn rfl (by assumption) ?_
      | refine Wp.pl rfl (by assumption) ?_
      | refine Wp.aik rfl (by assumption) rfl (by first | with_reducible rfl | with_reducible assumption) (by omega) (by with_reducible assumption) ?_
      | refine Wp.aiN rfl (by assumption) rfl (by first | with_reducible rfl | with_reducible assumption) (by omega) ?_
      | refine Wp.siN rfl (by assumption) rfl (by first | with_reducible rfl | with_reducible assumption) (by omega) ?_
      | refine Wp.rt rfl rfl rfl rfl ?_
      | refine Wp.rz rfl rfl (by decide) ?_)
    exact ⟨h, (Ext.refl M).up (by decide), rfl⟩
  iterate 2 (first
      | (with_reducible refine Wp.lt (by omega) (by omega) (fun _ => ?_) (fun _ => ?_) <;> try (exfalso; omega))
      | (with_reducible refine Wp.le (by omega) (by omega) (fun _ => ?_) (fun _ => ?_) <;> try (exfalso; omega))
      | (with_reducible refine Wp.eq (by omega) (by omega) (fun _ => ?_) (fun _ => ?_) <;> try (exfalso; omega))
      | (with_reducible refine Wp.ne (by omega) (by omega) (fun _ => ?_) (fun _ => ?_) <;> try (exfalso; omega))
      | with_reducible refine Wp.lt0 (by omega) ?_
      | with_reducible refine Wp.ge0 (by omega) ?_
      | (with_reducible refine Wp.bz (fun _ => ?_) (fun _ => ?_) <;> try contradiction)
      | (with_reducible refine Wp.bn (fun _ => ?_) (fun _ => ?_) <;> try contradiction)
      | (with_reducible refine Wp.br (fun _ => ?_) (fun _ => ?_) <;> try contradiction)
      | refine Wp.gik rfl (by assumption) (by with_reducible assumption) ?_
      | refine Wp.gi rfl (by assumption) ?_
      | refine Wp.gz rfl (by assumption) ?_
      | refine Wp.gr rfl (by assumption) (by assumption) ?_
      | refine Wp.gn rfl (by assumption) (by assumption) ?_
      | refine Wp.gl rfl (by assumption) ?_
      | refine Wp.addn rfl (by with_reducible rfl) (by with_reducible rfl) ?_
      | refine Wp.muln rfl (by with_reducible rfl) (by with_reducible rfl) ?_
      | refine Wp.subn rfl (by with_reducible rfl) (by with_reducible rfl) (by omega) ?_
      | (refine Wp.decn rfl rfl ?_; dsimp only [List.set])
      | (refine Wp.incn rfl rfl ?_; dsimp only [List.set])
      | (refine Wp.go rfl rfl ?_; try dsimp only [List.set])
      | refine Wp.pi rfl (by assumption) ?_
      | refine Wp.pr rfl (by assumption) ?_
      | refine Wp.pn rfl (by assumption) ?_
      | refine Wp.pl rfl (by assumption) ?_
      | refine Wp.aik rfl (by assumption) rfl (by first | with_reducible rfl | with_reducible assumption) (by omega) (by with_reducible assumption) ?_
      | refine Wp.aiN rfl (by assumption) rfl (by first | with_reducible rfl | with_reducible assumption) (by omega) ?_
      | refine Wp.siN rfl (by assumption) rfl (by first | with_reducible rfl | with_reducible assumption) (by omega) ?_
      | refine Wp.rt rfl rfl rfl rfl ?_
      | refine Wp.rz rfl rfl (by decide) ?_)
  iterate 1 (first
      | (with_reducible refine Wp.lt (by omega) (by omega) (fun _ => ?_) (fun _ => ?_) <;> try (exfalso; omega))
      | (with_reducible refine Wp.le (by omega) (by omega) (fun _ => ?_) (fun _ => ?_) <;> try (exfalso; omega))
      | (with_reducible refine Wp.eq (by omega) (by omega) (fun _ => ?_) (fun _ => ?_) <;> try (exfalso; omega))
      | (with_reducible refine Wp.ne (by omega) (by omega) (fun _ => ?_) (fun _ => ?_) <;> try (exfalso; omega))
      | with_reducible refine Wp.lt0 (by omega) ?_
      | with_reducible refine Wp.ge0 (by omega) ?_
      | (with_reducible refine Wp.bz (fun _ => ?_) (fun _ => ?_) <;> try contradiction)
      | (with_reducible refine Wp.bn (fun _ => ?_) (fun _ => ?_) <;> try contradiction)
      | (with_reducible refine Wp.br (fun _ => ?_) (fun _ => ?_) <;> try contradiction)
      | refine Wp.gik rfl (by assumption) (by with_reducible assumption) ?_
      | refine Wp.gi rfl (by assumption) ?_
      | refine Wp.gz rfl (by assumption) ?_
      | refine Wp.gr rfl (by assumption) (by assumption) ?_
      | refine Wp.gn rfl (by assumption) (by assumption) ?_
      | refine Wp.gl rfl (by assumption) ?_
      | refine Wp.addn rfl (by with_reducible rfl) (by with_reducible rfl) ?_
      | refine Wp.muln rfl (by with_reducible rfl) (by with_reducible rfl) ?_
      | refine Wp.subn rfl (by with_reducible rfl) (by with_reducible rfl) (by omega) ?_
      | (refine Wp.decn rfl rfl ?_; dsimp only [List.set])
      | (refine Wp.incn rfl rfl ?_; dsimp only [List.set])
      | (refine Wp.go rfl rfl ?_; try dsimp only [List.set])
      | refine Wp.pi rfl (by assumption) ?_
      | refine Wp.pr rfl (by assumption) ?_
      | refine Wp.pn rfl (by assumption) ?_
      | refine Wp.pl rfl (by assumption) ?_
      | refine Wp.aik rfl (by assumption) rfl (by first | with_reducible rfl | with_reducible assumption) (by omega) (by with_reducible assumption) ?_
      | refine Wp.aiN rfl (by assumption) rfl (by first | with_reducible rfl | with_reducible assumption) (by omega) ?_
      | refine Wp.siN rfl (by assumption) rfl (by first | with_reducible rfl | with_reducible assumption) (by omega) ?_
      | refine Wp.rt rfl rfl rfl rfl ?_
      | refine Wp.rz rfl rfl (by decide) ?_)
  refine Wp.br (fun h4 => ?_) (fun h4 => ?_)
  rotate_left
  · repeat' (first
      | (with_reducible refine Wp.lt (by omega) (by omega) (fun _ => ?_) (fun _ => ?_) <;> try (exfalso; omega))
      | (with_reducible refine Wp.le (by omega) (by omega) (fun _ => ?_) (fun _ => ?_) <;> try (exfalso; omega))
      | (with_reducible refine Wp.eq (by omega) (by omega) (fun _ => ?_) (fun _ => ?_) <;> try (exfalso; omega))
      | (with_reducible refine Wp.ne (by omega) (by omega) (fun _ => ?_) (fun _ => ?_) <;> try (exfalso; omega))
      | with_reducible refine Wp.lt0 (by omega) ?_
      | with_reducible refine Wp.ge0 (by omega) ?_
      | (with_reducible refine Wp.bz (fun _ => ?_) (fun _ => ?_) <;> try contradiction)
      | (with_reducible refine Wp.bn (fun _ => ?_) (fun _ => ?_) <;> try contradiction)
      | (with_reducible refine Wp.br (fun _ => ?_) (fun _ => ?_) <;> try contradiction)
      | refine Wp.gik rfl (by assumption) (by with_reducible assumption) ?_
      | refine Wp.gi rfl (by assumption) ?_
      | refine Wp.gz rfl (by assumption) ?_
      | refine Wp.gr rfl (by assumption) (by assumption) ?_
      | refine Wp.gn rfl (by assumption) (by assumption) ?_
      | refine Wp.gl rfl (by assumption) ?_
      | refine Wp.addn rfl (by with_reducible rfl) (by with_reducible rfl) ?_
      | refine Wp.muln rfl (by with_reducible rfl) (by with_reducible rfl) ?_
      | refine Wp.subn rfl (by with_reducible rfl) (by with_reducible rfl) (by omega) ?_
      | (refine Wp.decn rfl rfl ?_; dsimp only [List.set])
      | (refine Wp.incn rfl rfl ?_; dsimp only [List.set])
      | (refine Wp.go rfl rfl ?_; try dsimp only [List.set])
      | refine Wp.pi rfl (by assumption) ?_
      | refine Wp.pr rfl (by assumption) ?_
      | refine Wp.pn rfl (by assumption) ?_
      | refine Wp.pl rfl (by assumption) ?_
      | refine Wp.aik rfl (by assumption) rfl (by first | with_reducible rfl | with_reducible assumption) (by omega) (by with_reducible assumption) ?_
      | refine Wp.aiN rfl (by assumption) rfl (by first | with_reducible rfl | with_reducible assumption) (by omega) ?_
      | refine Wp.siN rfl (by assumption) rfl (by first | with_reducible rfl | with_reducible assumption) (by omega) ?_
      | refine Wp.rt rfl rfl rfl rfl ?_
      | refine Wp.rz rfl rfl (by decide) ?_)
    exact ⟨h, (Ext.refl M).up (by decide), rfl⟩
  have h4' : ¬ nI 3 < y := fun q => by
    rw [Int32.lt_iff_toInt_lt] at q h4
    have e3 : (nI 3).toInt = 3 := rfl
    have e4 : (nI 4).toInt = 4 := rfl
    omega
  have hb2 : c_n C = 40 ∨ (x = nI 4 ∧ (v < 0 ∨ nI 31 < v ∨ f_cnt v < nI 2)) := by
    rcases hb with q | q | q | q | q | q
    · exact absurd q h1
    · exact absurd q h2
    · exact absurd q h3
    · exact absurd q h4'
    · exact Or.inl q
    · exact Or.inr q
  iterate 2 (first
      | (with_reducible refine Wp.lt (by omega) (by omega) (fun _ => ?_) (fun _ => ?_) <;> try (exfalso; omega))
      | (with_reducible refine Wp.le (by omega) (by omega) (fun _ => ?_) (fun _ => ?_) <;> try (exfalso; omega))
      | (with_reducible refine Wp.eq (by omega) (by omega) (fun _ => ?_) (fun _ => ?_) <;> try (exfalso; omega))
      | (with_reducible refine Wp.ne (by omega) (by omega) (fun _ => ?_) (fun _ => ?_) <;> try (exfalso; omega))
      | with_reducible refine Wp.lt0 (by omega) ?_
      | with_reducible refine Wp.ge0 (by omega) ?_
      | (with_reducible refine Wp.bz (fun _ => ?_) (fun _ => ?_) <;> try contradiction)
      | (with_reducible refine Wp.bn (fun _ => ?_) (fun _ => ?_) <;> try contradiction)
      | (with_reducible refine Wp.br (fun _ => ?_) (fun _ => ?_) <;> try contradiction)
      | refine Wp.gik rfl (by assumption) (by with_reducible assumption) ?_
      | refine Wp.gi rfl (by assumption) ?_
      | refine Wp.gz rfl (by assumption) ?_
      | refine Wp.gr rfl (by assumption) (by assumption) ?_
      | refine Wp.gn rfl (by assumption) (by assumption) ?_
      | refine Wp.gl rfl (by assumption) ?_
      | refine Wp.addn rfl (by with_reducible rfl) (by with_reducible rfl) ?_
      | refine Wp.muln rfl (by with_reducible rfl) (by with_reducible rfl) ?_
      | refine Wp.subn rfl (by with_reducible rfl) (by with_reducible rfl) (by omega) ?_
      | (refine Wp.decn rfl rfl ?_; dsimp only [List.set])
      | (refine Wp.incn rfl rfl ?_; dsimp only [List.set])
      | (refine Wp.go rfl rfl ?_; try dsimp only [List.set])
      | refine Wp.pi rfl (by assumption) ?_
      | refine Wp.pr rfl (by assumption) ?_
      | refine Wp.pn rfl (by assumption) ?_
      | refine Wp.pl rfl (by assumption) ?_
      | refine Wp.aik rfl (by assumption) rfl (by first | with_reducible rfl | with_reducible assumption) (by omega) (by with_reducible assumption) ?_
      | refine Wp.aiN rfl (by assumption) rfl (by first | with_reducible rfl | with_reducible assumption) (by omega) ?_
      | refine Wp.siN rfl (by assumption) rfl (by first | with_reducible rfl | with_reducible assumption) (by omega) ?_
      | refine Wp.rt rfl rfl rfl rfl ?_
      | refine Wp.rz rfl rfl (by decide) ?_)
  iterate 1 (first
      | (with_reducible refine Wp.lt (by omega) (by omega) (fun _ => ?_) (fun _ => ?_) <;> try (exfalso; omega))
      | (with_reducible refine Wp.le (by omega) (by omega) (fun _ => ?_) (fun _ => ?_) <;> try (exfalso; omega))
      | (with_reducible refine Wp.eq (by omega) (by omega) (fun _ => ?_) (fun _ => ?_) <;> try (exfalso; omega))
      | (with_reducible refine Wp.ne (by omega) (by omega) (fun _ => ?_) (fun _ => ?_) <;> try (exfalso; omega))
      | with_reducible refine Wp.lt0 (by omega) ?_
      | with_reducible refine Wp.ge0 (by omega) ?_
      | (with_reducible refine Wp.bz (fun _ => ?_) (fun _ => ?_) <;> try contradiction)
      | (with_reducible refine Wp.bn (fun _ => ?_) (fun _ => ?_) <;> try contradiction)
      | (with_reducible refine Wp.br (fun _ => ?_) (fun _ => ?_) <;> try contradiction)
      | refine Wp.gik rfl (by assumption) (by with_reducible assumption) ?_
      | refine Wp.gi rfl (by assumption) ?_
      | refine Wp.gz rfl (by assumption) ?_
      | refine Wp.gr rfl (by assumption) (by assumption) ?_
      | refine Wp.gn rfl (by assumption) (by assumption) ?_
      | refine Wp.gl rfl (by assumption) ?_
      | refine Wp.addn rfl (by with_reducible rfl) (by with_reducible rfl) ?_
      | refine Wp.muln rfl (by with_reducible rfl) (by with_reducible rfl) ?_
      | refine Wp.subn rfl (by with_reducible rfl) (by with_reducible rfl) (by omega) ?_
      | (refine Wp.decn rfl rfl ?_; dsimp only [List.set])
      | (refine Wp.incn rfl rfl ?_; dsimp only [List.set])
      | (refine Wp.go rfl rfl ?_; try dsimp only [List.set])
      | refine Wp.pi rfl (by assumption) ?_
      | refine Wp.pr rfl (by assumption) ?_
      | refine Wp.pn rfl (by assumption) ?_
      | refine Wp.pl rfl (by assumption) ?_
      | refine Wp.aik rfl (by assumption) rfl (by first | with_reducible rfl | with_reducible assumption) (by omega) (by with_reducible assumption) ?_
      | refine Wp.aiN rfl (by assumption) rfl (by first | with_reducible rfl | with_reducible assumption) (by omega) ?_
      | refine Wp.siN rfl (by assumption) rfl (by first | with_reducible rfl | with_reducible assumption) (by omega) ?_
      | refine Wp.rt rfl rfl rfl rfl ?_
      | refine Wp.rz rfl rfl (by decide) ?_)
  refine Wp.br (fun h5 => ?_) (fun h5 => ?_)
  · rcases hb2 with q | q
    · exact k_ask0 d h q
    · exact absurd q.1 h5
  have h5' : x = nI 4 := Classical.not_not.mp h5
  iterate 1 (first
      | (with_reducible refine Wp.lt (by omega) (by omega) (fun _ => ?_) (fun _ => ?_) <;> try (exfalso; omega))
      | (with_reducible refine Wp.le (by omega) (by omega) (fun _ => ?_) (fun _ => ?_) <;> try (exfalso; omega))
      | (with_reducible refine Wp.eq (by omega) (by omega) (fun _ => ?_) (fun _ => ?_) <;> try (exfalso; omega))
      | (with_reducible refine Wp.ne (by omega) (by omega) (fun _ => ?_) (fun _ => ?_) <;> try (exfalso; omega))
      | with_reducible refine Wp.lt0 (by omega) ?_
      | with_reducible refine Wp.ge0 (by omega) ?_
      | (with_reducible refine Wp.bz (fun _ => ?_) (fun _ => ?_) <;> try contradiction)
      | (with_reducible refine Wp.bn (fun _ => ?_) (fun _ => ?_) <;> try contradiction)
      | (with_reducible refine Wp.br (fun _ => ?_) (fun _ => ?_) <;> try contradiction)
      | refine Wp.gik rfl (by assumption) (by with_reducible assumption) ?_
      | refine Wp.gi rfl (by assumption) ?_
      | refine Wp.gz rfl (by assumption) ?_
      | refine Wp.gr rfl (by assumption) (by assumption) ?_
      | refine Wp.gn rfl (by assumption) (by assumption) ?_
      | refine Wp.gl rfl (by assumption) ?_
      | refine Wp.addn rfl (by with_reducible rfl) (by with_reducible rfl) ?_
      | refine Wp.muln rfl (by with_reducible rfl) (by with_reducible rfl) ?_
      | refine Wp.subn rfl (by with_reducible rfl) (by with_reducible rfl) (by omega) ?_
      | (refine Wp.decn rfl rfl ?_; dsimp only [List.set])
      | (refine Wp.incn rfl rfl ?_; dsimp only [List.set])
      | (refine Wp.go rfl rfl ?_; try dsimp only [List.set])
      | refine Wp.pi rfl (by assumption) ?_
      | refine Wp.pr rfl (by assumption) ?_
      | refine Wp.pn rfl (by assumption) ?_
      | refine Wp.pl rfl (by assumption) ?_
      | refine Wp.aik rfl (by assumption) rfl (by first | with_reducible rfl | with_reducible assumption) (by omega) (by with_reducible assumption) ?_
      | refine Wp.aiN rfl (by assumption) rfl (by first | with_reducible rfl | with_reducible assumption) (by omega) ?_
      | refine Wp.siN rfl (by assumption) rfl (by first | with_reducible rfl | with_reducible assumption) (by omega) ?_
      | refine Wp.rt rfl rfl rfl rfl ?_
      | refine Wp.rz rfl rfl (by decide) ?_)
  refine Wp.S1i rfl rfl (k_isMem d M.2.1 (Z := zO M) v).ev0 ?_
  iterate 2 (first
      | (with_reducible refine Wp.lt (by omega) (by omega) (fun _ => ?_) (fun _ => ?_) <;> try (exfalso; omega))
      | (with_reducible refine Wp.le (by omega) (by omega) (fun _ => ?_) (fun _ => ?_) <;> try (exfalso; omega))
      | (with_reducible refine Wp.eq (by omega) (by omega) (fun _ => ?_) (fun _ => ?_) <;> try (exfalso; omega))
      | (with_reducible refine Wp.ne (by omega) (by omega) (fun _ => ?_) (fun _ => ?_) <;> try (exfalso; omega))
      | with_reducible refine Wp.lt0 (by omega) ?_
      | with_reducible refine Wp.ge0 (by omega) ?_
      | (with_reducible refine Wp.bz (fun _ => ?_) (fun _ => ?_) <;> try contradiction)
      | (with_reducible refine Wp.bn (fun _ => ?_) (fun _ => ?_) <;> try contradiction)
      | (with_reducible refine Wp.br (fun _ => ?_) (fun _ => ?_) <;> try contradiction)
      | refine Wp.gik rfl (by assumption) (by with_reducible assumption) ?_
      | refine Wp.gi rfl (by assumption) ?_
      | refine Wp.gz rfl (by assumption) ?_
      | refine Wp.gr rfl (by assumption) (by assumption) ?_
      | refine Wp.gn rfl (by assumption) (by assumption) ?_
      | refine Wp.gl rfl (by assumption) ?_
      | refine Wp.addn rfl (by with_reducible rfl) (by with_reducible rfl) ?_
      | refine Wp.muln rfl (by with_reducible rfl) (by with_reducible rfl) ?_
      | refine Wp.subn rfl (by with_reducible rfl) (by with_reducible rfl) (by omega) ?_
      | (refine Wp.decn rfl rfl ?_; dsimp only [List.set])
      | (refine Wp.incn rfl rfl ?_; dsimp only [List.set])
      | (refine Wp.go rfl rfl ?_; try dsimp only [List.set])
      | refine Wp.pi rfl (by assumption) ?_
      | refine Wp.pr rfl (by assumption) ?_
      | refine Wp.pn rfl (by assumption) ?_
      | refine Wp.pl rfl (by assumption) ?_
      | refine Wp.aik rfl (by assumption) rfl (by first | with_reducible rfl | with_reducible assumption) (by omega) (by with_reducible assumption) ?_
      | refine Wp.aiN rfl (by assumption) rfl (by first | with_reducible rfl | with_reducible assumption) (by omega) ?_
      | refine Wp.siN rfl (by assumption) rfl (by first | with_reducible rfl | with_reducible assumption) (by omega) ?_
      | refine Wp.rt rfl rfl rfl rfl ?_
      | refine Wp.rz rfl rfl (by decide) ?_)
  · rename_i h6
    rcases hb2 with q | q
    · exact k_ask0 d h q
    · exfalso
      rw [Bool.and_eq_true, Bool.and_eq_true, decide_eq_true_eq, decide_eq_true_eq, decide_eq_true_eq] at h6
      rcases q.2 with q | q | q
      · exact Int32.not_lt.mpr h6.1.1 q
      · exact Int32.not_lt.mpr h6.1.2 q
      · exact Int32.not_lt.mpr h6.2 q
  · repeat' (first
      | (with_reducible refine Wp.lt (by omega) (by omega) (fun _ => ?_) (fun _ => ?_) <;> try (exfalso; omega))
      | (with_reducible refine Wp.le (by omega) (by omega) (fun _ => ?_) (fun _ => ?_) <;> try (exfalso; omega))
      | (with_reducible refine Wp.eq (by omega) (by omega) (fun _ => ?_) (fun _ => ?_) <;> try (exfalso; omega))
      | (with_reducible refine Wp.ne (by omega) (by omega) (fun _ => ?_) (fun _ => ?_) <;> try (exfalso; omega))
      | with_reducible refine Wp.lt0 (by omega) ?_
      | with_reducible refine Wp.ge0 (by omega) ?_
      | (with_reducible refine Wp.bz (fun _ => ?_) (fun _ => ?_) <;> try contradiction)
      | (with_reducible refine Wp.bn (fun _ => ?_) (fun _ => ?_) <;> try contradiction)
      | (with_reducible refine Wp.br (fun _ => ?_) (fun _ => ?_) <;> try contradiction)
      | refine Wp.gik rfl (by assumption) (by with_reducible assumption) ?_
      | refine Wp.gi rfl (by assumption) ?_
      | refine Wp.gz rfl (by assumption) ?_
      | refine Wp.gr rfl (by assumption) (by assumption) ?_
      | refine Wp.gn rfl (by assumption) (by assumption) ?_
      | refine Wp.gl rfl (by assumption) ?_
      | refine Wp.addn rfl (by with_reducible rfl) (by with_reducible rfl) ?_
      | refine Wp.muln rfl (by with_reducible rfl) (by with_reducible rfl) ?_
      | refine Wp.subn rfl (by with_reducible rfl) (by with_reducible rfl) (by omega) ?_
      | (refine Wp.decn rfl rfl ?_; dsimp only [List.set])
      | (refine Wp.incn rfl rfl ?_; dsimp only [List.set])
      | (refine Wp.go rfl rfl ?_; try dsimp only [List.set])
      | refine Wp.pi rfl (by assumption) ?_
      | refine Wp.pr rfl (by assumption) ?_
      | refine Wp.pn rfl (by assumption) ?_
      | refine Wp.pl rfl (by assumption) ?_
      | refine Wp.aik rfl (by assumption) rfl (by first | with_reducible rfl | with_reducible assumption) (by omega) (by with_reducible assumption) ?_
      | refine Wp.aiN rfl (by assumption) rfl (by first | with_reducible rfl | with_reducible assumption) (by omega) ?_
      | refine Wp.siN rfl (by assumption) rfl (by first | with_reducible rfl | with_reducible assumption) (by omega) ?_
      | refine Wp.rt rfl rfl rfl rfl ?_
      | refine Wp.rz rfl rfl (by decide) ?_)
    exact ⟨h, (Ext.refl M).up (by decide), rfl⟩
theorem f_rep_x {x : Int32} (hf : f_rep x = true) : ∃ r, r < 5 ∧ x = nI r := by
  rw [f_rep, Bool.and_eq_true, decide_eq_true_eq, decide_eq_true_eq, Int32.le_iff_toInt_le, Int32.lt_iff_toInt_lt] at hf
  have e1 : (nI 5).toInt = 5 := rfl
  have e0 : (0 : Int32).toInt = 0 := rfl
  refine ⟨x.toInt.toNat, by omega, ?_⟩
  apply Int32.toInt_inj.mp
  rw [nI_toInt (by omega)]
  omega
theorem Rp.cl (h : Rp M C) : M.2.1 1 1 = nI (c_n C) := (h.1 1 1 (by omega)).trans h.n.1
theorem Rp.nt (h : Rp M C) : M.2.1 3 1 = nI (c_w C) := (h.1 3 1 (by omega)).trans h.w.1
set_option maxHeartbeats 4000000 in
theorem k_snd (d : Nat) {q : Nat} (h : Rp M C) (hr : r < 5) (hu : C.1 (9 + 13 * r) 3 = 1) (h1 : 1 ≤ q) (h2 : q ≤ c_n C) : Ev (d + 6) 76 M [.ref 0, .int (nI q), .int (nI r)] (fun M' v => Rp M' (c_tkr C r q).1 ∧ Ext 5 M M' ∧ v = some (.int (nI (c_tkr C r q).2))) := by
  obtain ⟨m1, m2, m3, m4, m5, m6, m7, m8⟩ := h.hm
  obtain ⟨n1, n2, qa, n3, n4⟩ := h.n
  have p1 := (h.f hr).1
  refine Ev.of (ls := [some (.ref 0), some (.int (nI q)), some (.int (nI r))]) rfl rfl ?_
  repeat' ((with_reducible fail_if_success show Wp _ _ 5 _ _ _ _); (first
      | (with_reducible refine Wp.lt (by omega) (by omega) (fun _ => ?_) (fun _ => ?_) <;> try (exfalso; omega))
      | (with_reducible refine Wp.le (by omega) (by omega) (fun _ => ?_) (fun _ => ?_) <;> try (exfalso; omega))
      | (with_reducible refine Wp.eq (by omega) (by omega) (fun _ => ?_) (fun _ => ?_) <;> try (exfalso; omega))
      | (with_reducible refine Wp.ne (by omega) (by omega) (fun _ => ?_) (fun _ => ?_) <;> try (exfalso; omega))
      | with_reducible refine Wp.lt0 (by omega) ?_
      | with_reducible refine Wp.ge0 (by omega) ?_
      | (with_reducible refine Wp.bz (fun _ => ?_) (fun _ => ?_) <;> try contradiction)
      | (with_reducible refine Wp.bn (fun _ => ?_) (fun _ => ?_) <;> try contradiction)
      | (with_reducible refine Wp.br (fun _ => ?_) (fun _ => ?_) <;> try contradiction)
      | refine Wp.gik rfl (by assumption) (by with_reducible assumption) ?_
      | refine Wp.gi rfl (by assumption) ?_
      | refine Wp.gz rfl (by assumption) ?_
      | refine Wp.gr rfl (by assumption) (by assumption) ?_
      | refine Wp.gn rfl (by assumption) (by assumption) ?_
      | refine Wp.gl rfl (by assumption) ?_
      | refine Wp.addn rfl (by with_reducible rfl) (by with_reducible rfl) ?_
      | refine Wp.muln rfl (by with_reducible rfl) (by with_reducible rfl) ?_
      | refine Wp.subn rfl (by with_reducible rfl) (by with_reducible rfl) (by omega) ?_
      | (refine Wp.decn rfl rfl ?_; dsimp only [List.set])
      | (refine Wp.incn rfl rfl ?_; dsimp only [List.set])
      | (refine Wp.go rfl rfl ?_; try dsimp only [List.set])
      | refine Wp.pi rfl (by assumption) ?_
      | refine Wp.pr rfl (by assumption) ?_
      | refine Wp.pn rfl (by assumption) ?_
      | refine Wp.pl rfl (by assumption) ?_
      | refine Wp.aik rfl (by assumption) rfl (by first | with_reducible rfl | with_reducible assumption) (by omega) (by with_reducible assumption) ?_
      | refine Wp.aiN rfl (by assumption) rfl (by first | with_reducible rfl | with_reducible assumption) (by omega) ?_
      | refine Wp.siN rfl (by assumption) rfl (by first | with_reducible rfl | with_reducible assumption) (by omega) ?_
      | refine Wp.rt rfl rfl rfl rfl ?_
      | refine Wp.rz rfl rfl (by decide) ?_))
  refine Wp.V1i rfl m7 rfl (k_find (d + 4) M.2.1 (Z := zO M) h.2.2.1.2.2.1 h.cl n2 h1 h2 (n3 q h1 h2).1).ev0 ?_
  repeat' ((with_reducible fail_if_success show Wp _ _ 12 _ _ _ _); (first
      | (with_reducible refine Wp.lt (by omega) (by omega) (fun _ => ?_) (fun _ => ?_) <;> try (exfalso; omega))
      | (with_reducible refine Wp.le (by omega) (by omega) (fun _ => ?_) (fun _ => ?_) <;> try (exfalso; omega))
      | (with_reducible refine Wp.eq (by omega) (by omega) (fun _ => ?_) (fun _ => ?_) <;> try (exfalso; omega))
      | (with_reducible refine Wp.ne (by omega) (by omega) (fun _ => ?_) (fun _ => ?_) <;> try (exfalso; omega))
      | with_reducible refine Wp.lt0 (by omega) ?_
      | with_reducible refine Wp.ge0 (by omega) ?_
      | (with_reducible refine Wp.bz (fun _ => ?_) (fun _ => ?_) <;> try contradiction)
      | (with_reducible refine Wp.bn (fun _ => ?_) (fun _ => ?_) <;> try contradiction)
      | (with_reducible refine Wp.br (fun _ => ?_) (fun _ => ?_) <;> try contradiction)
      | refine Wp.gik rfl (by assumption) (by with_reducible assumption) ?_
      | refine Wp.gi rfl (by assumption) ?_
      | refine Wp.gz rfl (by assumption) ?_
      | refine Wp.gr rfl (by assumption) (by assumption) ?_
      | refine Wp.gn rfl (by assumption) (by assumption) ?_
      | refine Wp.gl rfl (by assumption) ?_
      | refine Wp.addn rfl (by with_reducible rfl) (by with_reducible rfl) ?_
      | refine Wp.muln rfl (by with_reducible rfl) (by with_reducible rfl) ?_
      | refine Wp.subn rfl (by with_reducible rfl) (by with_reducible rfl) (by omega) ?_
      | (refine Wp.decn rfl rfl ?_; dsimp only [List.set])
      | (refine Wp.incn rfl rfl ?_; dsimp only [List.set])
      | (refine Wp.go rfl rfl ?_; try dsimp only [List.set])
      | refine Wp.pi rfl (by assumption) ?_
      | refine Wp.pr rfl (by assumption) ?_
      | refine Wp.pn rfl (by assumption) ?_
      | refine Wp.pl rfl (by assumption) ?_
      | refine Wp.aik rfl (by assumption) rfl (by first | with_reducible rfl | with_reducible assumption) (by omega) (by with_reducible assumption) ?_
      | refine Wp.aiN rfl (by assumption) rfl (by first | with_reducible rfl | with_reducible assumption) (by omega) ?_
      | refine Wp.siN rfl (by assumption) rfl (by first | with_reducible rfl | with_reducible assumption) (by omega) ?_
      | refine Wp.rt rfl rfl rfl rfl ?_
      | refine Wp.rz rfl rfl (by decide) ?_))
  refine Wp.S1i rfl rfl (k_isRep (d + 4) M.2.1 (Z := zO M) (nI r)).ev0 ?_
  rw [f_rep_n hr]
  repeat' ((with_reducible fail_if_success show Wp _ _ 25 _ _ _ _); (first
      | (with_reducible refine Wp.lt (by omega) (by omega) (fun _ => ?_) (fun _ => ?_) <;> try (exfalso; omega))
      | (with_reducible refine Wp.le (by omega) (by omega) (fun _ => ?_) (fun _ => ?_) <;> try (exfalso; omega))
      | (with_reducible refine Wp.eq (by omega) (by omega) (fun _ => ?_) (fun _ => ?_) <;> try (exfalso; omega))
      | (with_reducible refine Wp.ne (by omega) (by omega) (fun _ => ?_) (fun _ => ?_) <;> try (exfalso; omega))
      | with_reducible refine Wp.lt0 (by omega) ?_
      | with_reducible refine Wp.ge0 (by omega) ?_
      | (with_reducible refine Wp.bz (fun _ => ?_) (fun _ => ?_) <;> try contradiction)
      | (with_reducible refine Wp.bn (fun _ => ?_) (fun _ => ?_) <;> try contradiction)
      | (with_reducible refine Wp.br (fun _ => ?_) (fun _ => ?_) <;> try contradiction)
      | refine Wp.gik rfl (by assumption) (by with_reducible assumption) ?_
      | refine Wp.gi rfl (by assumption) ?_
      | refine Wp.gz rfl (by assumption) ?_
      | refine Wp.gr rfl (by assumption) (by assumption) ?_
      | refine Wp.gn rfl (by assumption) (by assumption) ?_
      | refine Wp.gl rfl (by assumption) ?_
      | refine Wp.addn rfl (by with_reducible rfl) (by with_reducible rfl) ?_
      | refine Wp.muln rfl (by with_reducible rfl) (by with_reducible rfl) ?_
      | refine Wp.subn rfl (by with_reducible rfl) (by with_reducible rfl) (by omega) ?_
      | (refine Wp.decn rfl rfl ?_; dsimp only [List.set])
      | (refine Wp.incn rfl rfl ?_; dsimp only [List.set])
      | (refine Wp.go rfl rfl ?_; try dsimp only [List.set])
      | refine Wp.pi rfl (by assumption) ?_
      | refine Wp.pr rfl (by assumption) ?_
      | refine Wp.pn rfl (by assumption) ?_
      | refine Wp.pl rfl (by assumption) ?_
      | refine Wp.aik rfl (by assumption) rfl (by first | with_reducible rfl | with_reducible assumption) (by omega) (by with_reducible assumption) ?_
      | refine Wp.aiN rfl (by assumption) rfl (by first | with_reducible rfl | with_reducible assumption) (by omega) ?_
      | refine Wp.siN rfl (by assumption) rfl (by first | with_reducible rfl | with_reducible assumption) (by omega) ?_
      | refine Wp.rt rfl rfl rfl rfl ?_
      | refine Wp.rz rfl rfl (by decide) ?_))
  refine Wp.aq rfl m5 (by decide) hr (by decide) (m6 r hr) ?_
  repeat' ((with_reducible fail_if_success show Wp _ _ 27 _ _ _ _); (first
      | (with_reducible refine Wp.lt (by omega) (by omega) (fun _ => ?_) (fun _ => ?_) <;> try (exfalso; omega))
      | (with_reducible refine Wp.le (by omega) (by omega) (fun _ => ?_) (fun _ => ?_) <;> try (exfalso; omega))
      | (with_reducible refine Wp.eq (by omega) (by omega) (fun _ => ?_) (fun _ => ?_) <;> try (exfalso; omega))
      | (with_reducible refine Wp.ne (by omega) (by omega) (fun _ => ?_) (fun _ => ?_) <;> try (exfalso; omega))
      | with_reducible refine Wp.lt0 (by omega) ?_
      | with_reducible refine Wp.ge0 (by omega) ?_
      | (with_reducible refine Wp.bz (fun _ => ?_) (fun _ => ?_) <;> try contradiction)
      | (with_reducible refine Wp.bn (fun _ => ?_) (fun _ => ?_) <;> try contradiction)
      | (with_reducible refine Wp.br (fun _ => ?_) (fun _ => ?_) <;> try contradiction)
      | refine Wp.gik rfl (by assumption) (by with_reducible assumption) ?_
      | refine Wp.gi rfl (by assumption) ?_
      | refine Wp.gz rfl (by assumption) ?_
      | refine Wp.gr rfl (by assumption) (by assumption) ?_
      | refine Wp.gn rfl (by assumption) (by assumption) ?_
      | refine Wp.gl rfl (by assumption) ?_
      | refine Wp.addn rfl (by with_reducible rfl) (by with_reducible rfl) ?_
      | refine Wp.muln rfl (by with_reducible rfl) (by with_reducible rfl) ?_
      | refine Wp.subn rfl (by with_reducible rfl) (by with_reducible rfl) (by omega) ?_
      | (refine Wp.decn rfl rfl ?_; dsimp only [List.set])
      | (refine Wp.incn rfl rfl ?_; dsimp only [List.set])
      | (refine Wp.go rfl rfl ?_; try dsimp only [List.set])
      | refine Wp.pi rfl (by assumption) ?_
      | refine Wp.pr rfl (by assumption) ?_
      | refine Wp.pn rfl (by assumption) ?_
      | refine Wp.pl rfl (by assumption) ?_
      | refine Wp.aik rfl (by assumption) rfl (by first | with_reducible rfl | with_reducible assumption) (by omega) (by with_reducible assumption) ?_
      | refine Wp.aiN rfl (by assumption) rfl (by first | with_reducible rfl | with_reducible assumption) (by omega) ?_
      | refine Wp.siN rfl (by assumption) rfl (by first | with_reducible rfl | with_reducible assumption) (by omega) ?_
      | refine Wp.rt rfl rfl rfl rfl ?_
      | refine Wp.rz rfl rfl (by decide) ?_))
  refine Wp.V1 rfl p1 rfl (k_tkr d h hr hu h1 h2) (fun M' v hq => ?_)
  obtain ⟨k1, k2, rfl⟩ := hq
  repeat' (first
      | (with_reducible refine Wp.lt (by omega) (by omega) (fun _ => ?_) (fun _ => ?_) <;> try (exfalso; omega))
      | (with_reducible refine Wp.le (by omega) (by omega) (fun _ => ?_) (fun _ => ?_) <;> try (exfalso; omega))
      | (with_reducible refine Wp.eq (by omega) (by omega) (fun _ => ?_) (fun _ => ?_) <;> try (exfalso; omega))
      | (with_reducible refine Wp.ne (by omega) (by omega) (fun _ => ?_) (fun _ => ?_) <;> try (exfalso; omega))
      | with_reducible refine Wp.lt0 (by omega) ?_
      | with_reducible refine Wp.ge0 (by omega) ?_
      | (with_reducible refine Wp.bz (fun _ => ?_) (fun _ => ?_) <;> try contradiction)
      | (with_reducible refine Wp.bn (fun _ => ?_) (fun _ => ?_) <;> try contradiction)
      | (with_reducible refine Wp.br (fun _ => ?_) (fun _ => ?_) <;> try contradiction)
      | refine Wp.gik rfl (by assumption) (by with_reducible assumption) ?_
      | refine Wp.gi rfl (by assumption) ?_
      | refine Wp.gz rfl (by assumption) ?_
      | refine Wp.gr rfl (by assumption) (by assumption) ?_
      | refine Wp.gn rfl (by assumption) (by assumption) ?_
      | refine Wp.gl rfl (by assumption) ?_
      | refine Wp.addn rfl (by with_reducible rfl) (by with_reducible rfl) ?_
      | refine Wp.muln rfl (by with_reducible rfl) (by with_reducible rfl) ?_
      | refine Wp.subn rfl (by with_reducible rfl) (by with_reducible rfl) (by omega) ?_
      | (refine Wp.decn rfl rfl ?_; dsimp only [List.set])
      | (refine Wp.incn rfl rfl ?_; dsimp only [List.set])
      | (refine Wp.go rfl rfl ?_; try dsimp only [List.set])
      | refine Wp.pi rfl (by assumption) ?_
      | refine Wp.pr rfl (by assumption) ?_
      | refine Wp.pn rfl (by assumption) ?_
      | refine Wp.pl rfl (by assumption) ?_
      | refine Wp.aik rfl (by assumption) rfl (by first | with_reducible rfl | with_reducible assumption) (by omega) (by with_reducible assumption) ?_
      | refine Wp.aiN rfl (by assumption) rfl (by first | with_reducible rfl | with_reducible assumption) (by omega) ?_
      | refine Wp.siN rfl (by assumption) rfl (by first | with_reducible rfl | with_reducible assumption) (by omega) ?_
      | refine Wp.rt rfl rfl rfl rfl ?_
      | refine Wp.rz rfl rfl (by decide) ?_)
  exact ⟨k1, k2, rfl⟩
set_option maxHeartbeats 4000000 in
theorem k_snd_d (d : Nat) {q : Nat} (h : Rp M C) (hr : r < 5) (hu : C.1 (9 + 13 * r) 3 = 0) (h1 : 1 ≤ q) (h2 : q ≤ c_n C) : Ev (d + 6) 76 M [.ref 0, .int (nI q), .int (nI r)] (fun M' v => M' = M ∧ v = some (.int (nI 0))) := by
  obtain ⟨m1, m2, m3, m4, m5, m6, m7, m8⟩ := h.hm
  obtain ⟨n1, n2, qa, n3, n4⟩ := h.n
  have p1 := (h.f hr).1
  refine Ev.of (ls := [some (.ref 0), some (.int (nI q)), some (.int (nI r))]) rfl rfl ?_
  repeat' ((with_reducible fail_if_success show Wp _ _ 5 _ _ _ _); (first
      | (with_reducible refine Wp.lt (by omega) (by omega) (fun _ => ?_) (fun _ => ?_) <;> try (exfalso; omega))
      | (with_reducible refine Wp.le (by omega) (by omega) (fun _ => ?_) (fun _ => ?_) <;> try (exfalso; omega))
      | (with_reducible refine Wp.eq (by omega) (by omega) (fun _ => ?_) (fun _ => ?_) <;> try (exfalso; omega))
      | (with_reducible refine Wp.ne (by omega) (by omega) (fun _ => ?_) (fun _ => ?_) <;> try (exfalso; omega))
      | with_reducible refine Wp.lt0 (by omega) ?_
      | with_reducible refine Wp.ge0 (by omega) ?_
      | (with_reducible refine Wp.bz (fun _ => ?_) (fun _ => ?_) <;> try contradiction)
      | (with_reducible refine Wp.bn (fun _ => ?_) (fun _ => ?_) <;> try contradiction)
      | (with_reducible refine Wp.br (fun _ => ?_) (fun _ => ?_) <;> try contradiction)
      | refine Wp.gik rfl (by assumption) (by with_reducible assumption) ?_
      | refine Wp.gi rfl (by assumption) ?_
      | refine Wp.gz rfl (by assumption) ?_
      | refine Wp.gr rfl (by assumption) (by assumption) ?_
      | refine Wp.gn rfl (by assumption) (by assumption) ?_
      | refine Wp.gl rfl (by assumption) ?_
      | refine Wp.addn rfl (by with_reducible rfl) (by with_reducible rfl) ?_
      | refine Wp.muln rfl (by with_reducible rfl) (by with_reducible rfl) ?_
      | refine Wp.subn rfl (by with_reducible rfl) (by with_reducible rfl) (by omega) ?_
      | (refine Wp.decn rfl rfl ?_; dsimp only [List.set])
      | (refine Wp.incn rfl rfl ?_; dsimp only [List.set])
      | (refine Wp.go rfl rfl ?_; try dsimp only [List.set])
      | refine Wp.pi rfl (by assumption) ?_
      | refine Wp.pr rfl (by assumption) ?_
      | refine Wp.pn rfl (by assumption) ?_
      | refine Wp.pl rfl (by assumption) ?_
      | refine Wp.aik rfl (by assumption) rfl (by first | with_reducible rfl | with_reducible assumption) (by omega) (by with_reducible assumption) ?_
      | refine Wp.aiN rfl (by assumption) rfl (by first | with_reducible rfl | with_reducible assumption) (by omega) ?_
      | refine Wp.siN rfl (by assumption) rfl (by first | with_reducible rfl | with_reducible assumption) (by omega) ?_
      | refine Wp.rt rfl rfl rfl rfl ?_
      | refine Wp.rz rfl rfl (by decide) ?_))
  refine Wp.V1i rfl m7 rfl (k_find (d + 4) M.2.1 (Z := zO M) h.2.2.1.2.2.1 h.cl n2 h1 h2 (n3 q h1 h2).1).ev0 ?_
  repeat' ((with_reducible fail_if_success show Wp _ _ 12 _ _ _ _); (first
      | (with_reducible refine Wp.lt (by omega) (by omega) (fun _ => ?_) (fun _ => ?_) <;> try (exfalso; omega))
      | (with_reducible refine Wp.le (by omega) (by omega) (fun _ => ?_) (fun _ => ?_) <;> try (exfalso; omega))
      | (with_reducible refine Wp.eq (by omega) (by omega) (fun _ => ?_) (fun _ => ?_) <;> try (exfalso; omega))
      | (with_reducible refine Wp.ne (by omega) (by omega) (fun _ => ?_) (fun _ => ?_) <;> try (exfalso; omega))
      | with_reducible refine Wp.lt0 (by omega) ?_
      | with_reducible refine Wp.ge0 (by omega) ?_
      | (with_reducible refine Wp.bz (fun _ => ?_) (fun _ => ?_) <;> try contradiction)
      | (with_reducible refine Wp.bn (fun _ => ?_) (fun _ => ?_) <;> try contradiction)
      | (with_reducible refine Wp.br (fun _ => ?_) (fun _ => ?_) <;> try contradiction)
      | refine Wp.gik rfl (by assumption) (by with_reducible assumption) ?_
      | refine Wp.gi rfl (by assumption) ?_
      | refine Wp.gz rfl (by assumption) ?_
      | refine Wp.gr rfl (by assumption) (by assumption) ?_
      | refine Wp.gn rfl (by assumption) (by assumption) ?_
      | refine Wp.gl rfl (by assumption) ?_
      | refine Wp.addn rfl (by with_reducible rfl) (by with_reducible rfl) ?_
      | refine Wp.muln rfl (by with_reducible rfl) (by with_reducible rfl) ?_
      | refine Wp.subn rfl (by with_reducible rfl) (by with_reducible rfl) (by omega) ?_
      | (refine Wp.decn rfl rfl ?_; dsimp only [List.set])
      | (refine Wp.incn rfl rfl ?_; dsimp only [List.set])
      | (refine Wp.go rfl rfl ?_; try dsimp only [List.set])
      | refine Wp.pi rfl (by assumption) ?_
      | refine Wp.pr rfl (by assumption) ?_
      | refine Wp.pn rfl (by assumption) ?_
      | refine Wp.pl rfl (by assumption) ?_
      | refine Wp.aik rfl (by assumption) rfl (by first | with_reducible rfl | with_reducible assumption) (by omega) (by with_reducible assumption) ?_
      | refine Wp.aiN rfl (by assumption) rfl (by first | with_reducible rfl | with_reducible assumption) (by omega) ?_
      | refine Wp.siN rfl (by assumption) rfl (by first | with_reducible rfl | with_reducible assumption) (by omega) ?_
      | refine Wp.rt rfl rfl rfl rfl ?_
      | refine Wp.rz rfl rfl (by decide) ?_))
  refine Wp.S1i rfl rfl (k_isRep (d + 4) M.2.1 (Z := zO M) (nI r)).ev0 ?_
  rw [f_rep_n hr]
  repeat' ((with_reducible fail_if_success show Wp _ _ 25 _ _ _ _); (first
      | (with_reducible refine Wp.lt (by omega) (by omega) (fun _ => ?_) (fun _ => ?_) <;> try (exfalso; omega))
      | (with_reducible refine Wp.le (by omega) (by omega) (fun _ => ?_) (fun _ => ?_) <;> try (exfalso; omega))
      | (with_reducible refine Wp.eq (by omega) (by omega) (fun _ => ?_) (fun _ => ?_) <;> try (exfalso; omega))
      | (with_reducible refine Wp.ne (by omega) (by omega) (fun _ => ?_) (fun _ => ?_) <;> try (exfalso; omega))
      | with_reducible refine Wp.lt0 (by omega) ?_
      | with_reducible refine Wp.ge0 (by omega) ?_
      | (with_reducible refine Wp.bz (fun _ => ?_) (fun _ => ?_) <;> try contradiction)
      | (with_reducible refine Wp.bn (fun _ => ?_) (fun _ => ?_) <;> try contradiction)
      | (with_reducible refine Wp.br (fun _ => ?_) (fun _ => ?_) <;> try contradiction)
      | refine Wp.gik rfl (by assumption) (by with_reducible assumption) ?_
      | refine Wp.gi rfl (by assumption) ?_
      | refine Wp.gz rfl (by assumption) ?_
      | refine Wp.gr rfl (by assumption) (by assumption) ?_
      | refine Wp.gn rfl (by assumption) (by assumption) ?_
      | refine Wp.gl rfl (by assumption) ?_
      | refine Wp.addn rfl (by with_reducible rfl) (by with_reducible rfl) ?_
      | refine Wp.muln rfl (by with_reducible rfl) (by with_reducible rfl) ?_
      | refine Wp.subn rfl (by with_reducible rfl) (by with_reducible rfl) (by omega) ?_
      | (refine Wp.decn rfl rfl ?_; dsimp only [List.set])
      | (refine Wp.incn rfl rfl ?_; dsimp only [List.set])
      | (refine Wp.go rfl rfl ?_; try dsimp only [List.set])
      | refine Wp.pi rfl (by assumption) ?_
      | refine Wp.pr rfl (by assumption) ?_
      | refine Wp.pn rfl (by assumption) ?_
      | refine Wp.pl rfl (by assumption) ?_
      | refine Wp.aik rfl (by assumption) rfl (by first | with_reducible rfl | with_reducible assumption) (by omega) (by with_reducible assumption) ?_
      | refine Wp.aiN rfl (by assumption) rfl (by first | with_reducible rfl | with_reducible assumption) (by omega) ?_
      | refine Wp.siN rfl (by assumption) rfl (by first | with_reducible rfl | with_reducible assumption) (by omega) ?_
      | refine Wp.rt rfl rfl rfl rfl ?_
      | refine Wp.rz rfl rfl (by decide) ?_))
  refine Wp.aq rfl m5 (by decide) hr (by decide) (m6 r hr) ?_
  repeat' ((with_reducible fail_if_success show Wp _ _ 27 _ _ _ _); (first
      | (with_reducible refine Wp.lt (by omega) (by omega) (fun _ => ?_) (fun _ => ?_) <;> try (exfalso; omega))
      | (with_reducible refine Wp.le (by omega) (by omega) (fun _ => ?_) (fun _ => ?_) <;> try (exfalso; omega))
      | (with_reducible refine Wp.eq (by omega) (by omega) (fun _ => ?_) (fun _ => ?_) <;> try (exfalso; omega))
      | (with_reducible refine Wp.ne (by omega) (by omega) (fun _ => ?_) (fun _ => ?_) <;> try (exfalso; omega))
      | with_reducible refine Wp.lt0 (by omega) ?_
      | with_reducible refine Wp.ge0 (by omega) ?_
      | (with_reducible refine Wp.bz (fun _ => ?_) (fun _ => ?_) <;> try contradiction)
      | (with_reducible refine Wp.bn (fun _ => ?_) (fun _ => ?_) <;> try contradiction)
      | (with_reducible refine Wp.br (fun _ => ?_) (fun _ => ?_) <;> try contradiction)
      | refine Wp.gik rfl (by assumption) (by with_reducible assumption) ?_
      | refine Wp.gi rfl (by assumption) ?_
      | refine Wp.gz rfl (by assumption) ?_
      | refine Wp.gr rfl (by assumption) (by assumption) ?_
      | refine Wp.gn rfl (by assumption) (by assumption) ?_
      | refine Wp.gl rfl (by assumption) ?_
      | refine Wp.addn rfl (by with_reducible rfl) (by with_reducible rfl) ?_
      | refine Wp.muln rfl (by with_reducible rfl) (by with_reducible rfl) ?_
      | refine Wp.subn rfl (by with_reducible rfl) (by with_reducible rfl) (by omega) ?_
      | (refine Wp.decn rfl rfl ?_; dsimp only [List.set])
      | (refine Wp.incn rfl rfl ?_; dsimp only [List.set])
      | (refine Wp.go rfl rfl ?_; try dsimp only [List.set])
      | refine Wp.pi rfl (by assumption) ?_
      | refine Wp.pr rfl (by assumption) ?_
      | refine Wp.pn rfl (by assumption) ?_
      | refine Wp.pl rfl (by assumption) ?_
      | refine Wp.aik rfl (by assumption) rfl (by first | with_reducible rfl | with_reducible assumption) (by omega) (by with_reducible assumption) ?_
      | refine Wp.aiN rfl (by assumption) rfl (by first | with_reducible rfl | with_reducible assumption) (by omega) ?_
      | refine Wp.siN rfl (by assumption) rfl (by first | with_reducible rfl | with_reducible assumption) (by omega) ?_
      | refine Wp.rt rfl rfl rfl rfl ?_
      | refine Wp.rz rfl rfl (by decide) ?_))
  refine Wp.V1i rfl p1 rfl (k_tkr_d d h hr hu) ?_
  repeat' (first
      | (with_reducible refine Wp.lt (by omega) (by omega) (fun _ => ?_) (fun _ => ?_) <;> try (exfalso; omega))
      | (with_reducible refine Wp.le (by omega) (by omega) (fun _ => ?_) (fun _ => ?_) <;> try (exfalso; omega))
      | (with_reducible refine Wp.eq (by omega) (by omega) (fun _ => ?_) (fun _ => ?_) <;> try (exfalso; omega))
      | (with_reducible refine Wp.ne (by omega) (by omega) (fun _ => ?_) (fun _ => ?_) <;> try (exfalso; omega))
      | with_reducible refine Wp.lt0 (by omega) ?_
      | with_reducible refine Wp.ge0 (by omega) ?_
      | (with_reducible refine Wp.bz (fun _ => ?_) (fun _ => ?_) <;> try contradiction)
      | (with_reducible refine Wp.bn (fun _ => ?_) (fun _ => ?_) <;> try contradiction)
      | (with_reducible refine Wp.br (fun _ => ?_) (fun _ => ?_) <;> try contradiction)
      | refine Wp.gik rfl (by assumption) (by with_reducible assumption) ?_
      | refine Wp.gi rfl (by assumption) ?_
      | refine Wp.gz rfl (by assumption) ?_
      | refine Wp.gr rfl (by assumption) (by assumption) ?_
      | refine Wp.gn rfl (by assumption) (by assumption) ?_
      | refine Wp.gl rfl (by assumption) ?_
      | refine Wp.addn rfl (by with_reducible rfl) (by with_reducible rfl) ?_
      | refine Wp.muln rfl (by with_reducible rfl) (by with_reducible rfl) ?_
      | refine Wp.subn rfl (by with_reducible rfl) (by with_reducible rfl) (by omega) ?_
      | (refine Wp.decn rfl rfl ?_; dsimp only [List.set])
      | (refine Wp.incn rfl rfl ?_; dsimp only [List.set])
      | (refine Wp.go rfl rfl ?_; try dsimp only [List.set])
      | refine Wp.pi rfl (by assumption) ?_
      | refine Wp.pr rfl (by assumption) ?_
      | refine Wp.pn rfl (by assumption) ?_
      | refine Wp.pl rfl (by assumption) ?_
      | refine Wp.aik rfl (by assumption) rfl (by first | with_reducible rfl | with_reducible assumption) (by omega) (by with_reducible assumption) ?_
      | refine Wp.aiN rfl (by assumption) rfl (by first | with_reducible rfl | with_reducible assumption) (by omega) ?_
      | refine Wp.siN rfl (by assumption) rfl (by first | with_reducible rfl | with_reducible assumption) (by omega) ?_
      | refine Wp.rt rfl rfl rfl rfl ?_
      | refine Wp.rz rfl rfl (by decide) ?_)
  exact ⟨rfl, rfl⟩
set_option maxHeartbeats 4000000 in
theorem k_snd_n (d : Nat) {x y : Int32} (h : Rp M C) (hx : x < nI 1 ∨ nI (c_n C) < x ∨ f_rep y = false) : Ev (d + 6) 76 M [.ref 0, .int x, .int y] (fun M' v => M' = M ∧ v = some (.int (-1))) := by
  obtain ⟨m1, m2, m3, m4, m5, m6, m7, m8⟩ := h.hm
  obtain ⟨n1, n2, qa, n3, n4⟩ := h.n
  refine Ev.of (ls := [some (.ref 0), some (.int x), some (.int y)]) rfl rfl ?_
  repeat' ((with_reducible fail_if_success show Wp _ _ 5 _ _ _ _); (first
      | (with_reducible refine Wp.lt (by omega) (by omega) (fun _ => ?_) (fun _ => ?_) <;> try (exfalso; omega))
      | (with_reducible refine Wp.le (by omega) (by omega) (fun _ => ?_) (fun _ => ?_) <;> try (exfalso; omega))
      | (with_reducible refine Wp.eq (by omega) (by omega) (fun _ => ?_) (fun _ => ?_) <;> try (exfalso; omega))
      | (with_reducible refine Wp.ne (by omega) (by omega) (fun _ => ?_) (fun _ => ?_) <;> try (exfalso; omega))
      | with_reducible refine Wp.lt0 (by omega) ?_
      | with_reducible refine Wp.ge0 (by omega) ?_
      | (with_reducible refine Wp.bz (fun _ => ?_) (fun _ => ?_) <;> try contradiction)
      | (with_reducible refine Wp.bn (fun _ => ?_) (fun _ => ?_) <;> try contradiction)
      | (with_reducible refine Wp.br (fun _ => ?_) (fun _ => ?_) <;> try contradiction)
      | refine Wp.gik rfl (by assumption) (by with_reducible assumption) ?_
      | refine Wp.gi rfl (by assumption) ?_
      | refine Wp.gz rfl (by assumption) ?_
      | refine Wp.gr rfl (by assumption) (by assumption) ?_
      | refine Wp.gn rfl (by assumption) (by assumption) ?_
      | refine Wp.gl rfl (by assumption) ?_
      | refine Wp.addn rfl (by with_reducible rfl) (by with_reducible rfl) ?_
      | refine Wp.muln rfl (by with_reducible rfl) (by with_reducible rfl) ?_
      | refine Wp.subn rfl (by with_reducible rfl) (by with_reducible rfl) (by omega) ?_
      | (refine Wp.decn rfl rfl ?_; dsimp only [List.set])
      | (refine Wp.incn rfl rfl ?_; dsimp only [List.set])
      | (refine Wp.go rfl rfl ?_; try dsimp only [List.set])
      | refine Wp.pi rfl (by assumption) ?_
      | refine Wp.pr rfl (by assumption) ?_
      | refine Wp.pn rfl (by assumption) ?_
      | refine Wp.pl rfl (by assumption) ?_
      | refine Wp.aik rfl (by assumption) rfl (by first | with_reducible rfl | with_reducible assumption) (by omega) (by with_reducible assumption) ?_
      | refine Wp.aiN rfl (by assumption) rfl (by first | with_reducible rfl | with_reducible assumption) (by omega) ?_
      | refine Wp.siN rfl (by assumption) rfl (by first | with_reducible rfl | with_reducible assumption) (by omega) ?_
      | refine Wp.rt rfl rfl rfl rfl ?_
      | refine Wp.rz rfl rfl (by decide) ?_))
  by_cases hq : x < nI 1 ∨ nI (c_n C) < x
  · refine Wp.V1i rfl m7 rfl (k_find_n (d + 4) M.2.1 (Z := zO M) h.2.2.1.2.2.1 h.cl hq).ev0 ?_
    repeat' (first
      | (with_reducible refine Wp.lt (by omega) (by omega) (fun _ => ?_) (fun _ => ?_) <;> try (exfalso; omega))
      | (with_reducible refine Wp.le (by omega) (by omega) (fun _ => ?_) (fun _ => ?_) <;> try (exfalso; omega))
      | (with_reducible refine Wp.eq (by omega) (by omega) (fun _ => ?_) (fun _ => ?_) <;> try (exfalso; omega))
      | (with_reducible refine Wp.ne (by omega) (by omega) (fun _ => ?_) (fun _ => ?_) <;> try (exfalso; omega))
      | with_reducible refine Wp.lt0 (by omega) ?_
      | with_reducible refine Wp.ge0 (by omega) ?_
      | (with_reducible refine Wp.bz (fun _ => ?_) (fun _ => ?_) <;> try contradiction)
      | (with_reducible refine Wp.bn (fun _ => ?_) (fun _ => ?_) <;> try contradiction)
      | (with_reducible refine Wp.br (fun _ => ?_) (fun _ => ?_) <;> try contradiction)
      | refine Wp.gik rfl (by assumption) (by with_reducible assumption) ?_
      | refine Wp.gi rfl (by assumption) ?_
      | refine Wp.gz rfl (by assumption) ?_
      | refine Wp.gr rfl (by assumption) (by assumption) ?_
      | refine Wp.gn rfl (by assumption) (by assumption) ?_
      | refine Wp.gl rfl (by assumption) ?_
      | refine Wp.addn rfl (by with_reducible rfl) (by with_reducible rfl) ?_
      | refine Wp.muln rfl (by with_reducible rfl) (by with_reducible rfl) ?_
      | refine Wp.subn rfl (by with_reducible rfl) (by with_reducible rfl) (by omega) ?_
      | (refine Wp.decn rfl rfl ?_; dsimp only [List.set])
      | (refine Wp.incn rfl rfl ?_; dsimp only [List.set])
      | (refine Wp.go rfl rfl ?_; try dsimp only [List.set])
      | refine Wp.pi rfl (by assumption) ?_
      | refine Wp.pr rfl (by assumption) ?_
      | refine Wp.pn rfl (by assumption) ?_
      | refine Wp.pl rfl (by assumption) ?_
      | refine Wp.aik rfl (by assumption) rfl (by first | with_reducible rfl | with_reducible assumption) (by omega) (by with_reducible assumption) ?_
      | refine Wp.aiN rfl (by assumption) rfl (by first | with_reducible rfl | with_reducible assumption) (by omega) ?_
      | refine Wp.siN rfl (by assumption) rfl (by first | with_reducible rfl | with_reducible assumption) (by omega) ?_
      | refine Wp.rt rfl rfl rfl rfl ?_
      | refine Wp.rz rfl rfl (by decide) ?_)
    exact ⟨rfl, rfl⟩
  · have hy : f_rep y = false := by
      rcases hx with q | q | q
      · exact absurd (Or.inl q) hq
      · exact absurd (Or.inr q) hq
      · exact q
    have hx1 : nI 1 ≤ x := Int32.not_lt.mp (fun q => hq (Or.inl q))
    have hx2 : x ≤ nI (c_n C) := Int32.not_lt.mp (fun q => hq (Or.inr q))
    obtain ⟨q, q1, q2, rfl⟩ : ∃ q, 1 ≤ q ∧ q ≤ c_n C ∧ x = nI q := by
      rw [Int32.le_iff_toInt_le] at hx1 hx2
      rw [nI_toInt (by omega)] at hx2
      have e1 : (nI 1).toInt = 1 := rfl
      refine ⟨x.toInt.toNat, by omega, by omega, ?_⟩
      apply Int32.toInt_inj.mp
      rw [nI_toInt (by omega)]
      omega
    refine Wp.V1i rfl m7 rfl (k_find (d + 4) M.2.1 (Z := zO M) h.2.2.1.2.2.1 h.cl n2 q1 q2 (n3 q q1 q2).1).ev0 ?_
    repeat' ((with_reducible fail_if_success show Wp _ _ 12 _ _ _ _); (first
      | (with_reducible refine Wp.lt (by omega) (by omega) (fun _ => ?_) (fun _ => ?_) <;> try (exfalso; omega))
      | (with_reducible refine Wp.le (by omega) (by omega) (fun _ => ?_) (fun _ => ?_) <;> try (exfalso; omega))
      | (with_reducible refine Wp.eq (by omega) (by omega) (fun _ => ?_) (fun _ => ?_) <;> try (exfalso; omega))
      | (with_reducible refine Wp.ne (by omega) (by omega) (fun _ => ?_) (fun _ => ?_) <;> try (exfalso; omega))
      | with_reducible refine Wp.lt0 (by omega) ?_
      | with_reducible refine Wp.ge0 (by omega) ?_
      | (with_reducible refine Wp.bz (fun _ => ?_) (fun _ => ?_) <;> try contradiction)
      | (with_reducible refine Wp.bn (fun _ => ?_) (fun _ => ?_) <;> try contradiction)
      | (with_reducible refine Wp.br (fun _ => ?_) (fun _ => ?_) <;> try contradiction)
      | refine Wp.gik rfl (by assumption) (by with_reducible assumption) ?_
      | refine Wp.gi rfl (by assumption) ?_
      | refine Wp.gz rfl (by assumption) ?_
      | refine Wp.gr rfl (by assumption) (by assumption) ?_
      | refine Wp.gn rfl (by assumption) (by assumption) ?_
      | refine Wp.gl rfl (by assumption) ?_
      | refine Wp.addn rfl (by with_reducible rfl) (by with_reducible rfl) ?_
      | refine Wp.muln rfl (by with_reducible rfl) (by with_reducible rfl) ?_
      | refine Wp.subn rfl (by with_reducible rfl) (by with_reducible rfl) (by omega) ?_
      | (refine Wp.decn rfl rfl ?_; dsimp only [List.set])
      | (refine Wp.incn rfl rfl ?_; dsimp only [List.set])
      | (refine Wp.go rfl rfl ?_; try dsimp only [List.set])
      | refine Wp.pi rfl (by assumption) ?_
      | refine Wp.pr rfl (by assumption) ?_
      | refine Wp.pn rfl (by assumption) ?_
      | refine Wp.pl rfl (by assumption) ?_
      | refine Wp.aik rfl (by assumption) rfl (by first | with_reducible rfl | with_reducible assumption) (by omega) (by with_reducible assumption) ?_
      | refine Wp.aiN rfl (by assumption) rfl (by first | with_reducible rfl | with_reducible assumption) (by omega) ?_
      | refine Wp.siN rfl (by assumption) rfl (by first | with_reducible rfl | with_reducible assumption) (by omega) ?_
      | refine Wp.rt rfl rfl rfl rfl ?_
      | refine Wp.rz rfl rfl (by decide) ?_))
    refine Wp.S1i rfl rfl (k_isRep (d + 4) M.2.1 (Z := zO M) y).ev0 ?_
    rw [hy]
    repeat' (first
      | (with_reducible refine Wp.lt (by omega) (by omega) (fun _ => ?_) (fun _ => ?_) <;> try (exfalso; omega))
      | (with_reducible refine Wp.le (by omega) (by omega) (fun _ => ?_) (fun _ => ?_) <;> try (exfalso; omega))
      | (with_reducible refine Wp.eq (by omega) (by omega) (fun _ => ?_) (fun _ => ?_) <;> try (exfalso; omega))
      | (with_reducible refine Wp.ne (by omega) (by omega) (fun _ => ?_) (fun _ => ?_) <;> try (exfalso; omega))
      | with_reducible refine Wp.lt0 (by omega) ?_
      | with_reducible refine Wp.ge0 (by omega) ?_
      | (with_reducible refine Wp.bz (fun _ => ?_) (fun _ => ?_) <;> try contradiction)
      | (with_reducible refine Wp.bn (fun _ => ?_) (fun _ => ?_) <;> try contradiction)
      | (with_reducible refine Wp.br (fun _ => ?_) (fun _ => ?_) <;> try contradiction)
      | refine Wp.gik rfl (by assumption) (by with_reducible assumption) ?_
      | refine Wp.gi rfl (by assumption) ?_
      | refine Wp.gz rfl (by assumption) ?_
      | refine Wp.gr rfl (by assumption) (by assumption) ?_
      | refine Wp.gn rfl (by assumption) (by assumption) ?_
      | refine Wp.gl rfl (by assumption) ?_
      | refine Wp.addn rfl (by with_reducible rfl) (by with_reducible rfl) ?_
      | refine Wp.muln rfl (by with_reducible rfl) (by with_reducible rfl) ?_
      | refine Wp.subn rfl (by with_reducible rfl) (by with_reducible rfl) (by omega) ?_
      | (refine Wp.decn rfl rfl ?_; dsimp only [List.set])
      | (refine Wp.incn rfl rfl ?_; dsimp only [List.set])
      | (refine Wp.go rfl rfl ?_; try dsimp only [List.set])
      | refine Wp.pi rfl (by assumption) ?_
      | refine Wp.pr rfl (by assumption) ?_
      | refine Wp.pn rfl (by assumption) ?_
      | refine Wp.pl rfl (by assumption) ?_
      | refine Wp.aik rfl (by assumption) rfl (by first | with_reducible rfl | with_reducible assumption) (by omega) (by with_reducible assumption) ?_
      | refine Wp.aiN rfl (by assumption) rfl (by first | with_reducible rfl | with_reducible assumption) (by omega) ?_
      | refine Wp.siN rfl (by assumption) rfl (by first | with_reducible rfl | with_reducible assumption) (by omega) ?_
      | refine Wp.rt rfl rfl rfl rfl ?_
      | refine Wp.rz rfl rfl (by decide) ?_)
    exact ⟨rfl, rfl⟩
theorem w_size (d : Nat) (h : Rp M C) : Ev (d + 1) 23 M [.ref 3] (fun M' w => M' = M ∧ w = some (.int (C.1 3 1))) := by
  have k := (k_size d M.2.1 (Z := zO M) h.2.2.1.2.1).ev0
  rw [h.1 3 1 (by omega)] at k
  exact k
set_option maxHeartbeats 4000000 in
theorem k_tim (d : Nat) {p : Nat} (h : Rp M C) (hr : r < 5) (hu : C.1 (9 + 13 * r) 3 = 1) (hp : C.1 (9 + 13 * r) 4 = nI p) (hp2 : p ≤ 400000) : Ev (d + 7) 80 M [.ref 0, .int (nI r)] (fun M' v => Rp M' (c_str C r p) ∧ Ext 20 M M' ∧ v = some (.int ((c_str C r p).1 3 1 - C.1 3 1))) := by
  obtain ⟨m1, m2, m3, m4, m5, m6, m7, m8⟩ := h.hm
  have p1 := (h.f hr).1
  have hup : M.2.1 (9 + 13 * r) 3 = 1 := (h.1 _ _ (by omega)).trans hu
  refine Ev.of (ls := [some (.ref 0), some (.int (nI r)), none]) rfl rfl ?_
  repeat' ((with_reducible fail_if_success show Wp _ _ 1 _ _ _ _); (first
      | (with_reducible refine Wp.lt (by omega) (by omega) (fun _ => ?_) (fun _ => ?_) <;> try (exfalso; omega))
      | (with_reducible refine Wp.le (by omega) (by omega) (fun _ => ?_) (fun _ => ?_) <;> try (exfalso; omega))
      | (with_reducible refine Wp.eq (by omega) (by omega) (fun _ => ?_) (fun _ => ?_) <;> try (exfalso; omega))
      | (with_reducible refine Wp.ne (by omega) (by omega) (fun _ => ?_) (fun _ => ?_) <;> try (exfalso; omega))
      | with_reducible refine Wp.lt0 (by omega) ?_
      | with_reducible refine Wp.ge0 (by omega) ?_
      | (with_reducible refine Wp.bz (fun _ => ?_) (fun _ => ?_) <;> try contradiction)
      | (with_reducible refine Wp.bn (fun _ => ?_) (fun _ => ?_) <;> try contradiction)
      | (with_reducible refine Wp.br (fun _ => ?_) (fun _ => ?_) <;> try contradiction)
      | refine Wp.gik rfl (by assumption) (by with_reducible assumption) ?_
      | refine Wp.gi rfl (by assumption) ?_
      | refine Wp.gz rfl (by assumption) ?_
      | refine Wp.gr rfl (by assumption) (by assumption) ?_
      | refine Wp.gn rfl (by assumption) (by assumption) ?_
      | refine Wp.gl rfl (by assumption) ?_
      | refine Wp.addn rfl (by with_reducible rfl) (by with_reducible rfl) ?_
      | refine Wp.muln rfl (by with_reducible rfl) (by with_reducible rfl) ?_
      | refine Wp.subn rfl (by with_reducible rfl) (by with_reducible rfl) (by omega) ?_
      | (refine Wp.decn rfl rfl ?_; dsimp only [List.set])
      | (refine Wp.incn rfl rfl ?_; dsimp only [List.set])
      | (refine Wp.go rfl rfl ?_; try dsimp only [List.set])
      | refine Wp.pi rfl (by assumption) ?_
      | refine Wp.pr rfl (by assumption) ?_
      | refine Wp.pn rfl (by assumption) ?_
      | refine Wp.pl rfl (by assumption) ?_
      | refine Wp.aik rfl (by assumption) rfl (by first | with_reducible rfl | with_reducible assumption) (by omega) (by with_reducible assumption) ?_
      | refine Wp.aiN rfl (by assumption) rfl (by first | with_reducible rfl | with_reducible assumption) (by omega) ?_
      | refine Wp.siN rfl (by assumption) rfl (by first | with_reducible rfl | with_reducible assumption) (by omega) ?_
      | refine Wp.rt rfl rfl rfl rfl ?_
      | refine Wp.rz rfl rfl (by decide) ?_))
  refine Wp.S1i rfl rfl (k_isRep (d + 5) M.2.1 (Z := zO M) (nI r)).ev0 ?_
  rw [f_rep_n hr]
  repeat' ((with_reducible fail_if_success show Wp _ _ 12 _ _ _ _); (first
      | (with_reducible refine Wp.lt (by omega) (by omega) (fun _ => ?_) (fun _ => ?_) <;> try (exfalso; omega))
      | (with_reducible refine Wp.le (by omega) (by omega) (fun _ => ?_) (fun _ => ?_) <;> try (exfalso; omega))
      | (with_reducible refine Wp.eq (by omega) (by omega) (fun _ => ?_) (fun _ => ?_) <;> try (exfalso; omega))
      | (with_reducible refine Wp.ne (by omega) (by omega) (fun _ => ?_) (fun _ => ?_) <;> try (exfalso; omega))
      | with_reducible refine Wp.lt0 (by omega) ?_
      | with_reducible refine Wp.ge0 (by omega) ?_
      | (with_reducible refine Wp.bz (fun _ => ?_) (fun _ => ?_) <;> try contradiction)
      | (with_reducible refine Wp.bn (fun _ => ?_) (fun _ => ?_) <;> try contradiction)
      | (with_reducible refine Wp.br (fun _ => ?_) (fun _ => ?_) <;> try contradiction)
      | refine Wp.gik rfl (by assumption) (by with_reducible assumption) ?_
      | refine Wp.gi rfl (by assumption) ?_
      | refine Wp.gz rfl (by assumption) ?_
      | refine Wp.gr rfl (by assumption) (by assumption) ?_
      | refine Wp.gn rfl (by assumption) (by assumption) ?_
      | refine Wp.gl rfl (by assumption) ?_
      | refine Wp.addn rfl (by with_reducible rfl) (by with_reducible rfl) ?_
      | refine Wp.muln rfl (by with_reducible rfl) (by with_reducible rfl) ?_
      | refine Wp.subn rfl (by with_reducible rfl) (by with_reducible rfl) (by omega) ?_
      | (refine Wp.decn rfl rfl ?_; dsimp only [List.set])
      | (refine Wp.incn rfl rfl ?_; dsimp only [List.set])
      | (refine Wp.go rfl rfl ?_; try dsimp only [List.set])
      | refine Wp.pi rfl (by assumption) ?_
      | refine Wp.pr rfl (by assumption) ?_
      | refine Wp.pn rfl (by assumption) ?_
      | refine Wp.pl rfl (by assumption) ?_
      | refine Wp.aik rfl (by assumption) rfl (by first | with_reducible rfl | with_reducible assumption) (by omega) (by with_reducible assumption) ?_
      | refine Wp.aiN rfl (by assumption) rfl (by first | with_reducible rfl | with_reducible assumption) (by omega) ?_
      | refine Wp.siN rfl (by assumption) rfl (by first | with_reducible rfl | with_reducible assumption) (by omega) ?_
      | refine Wp.rt rfl rfl rfl rfl ?_
      | refine Wp.rz rfl rfl (by decide) ?_))
  refine Wp.aq rfl m5 (by decide) hr (by decide) (m6 r hr) ?_
  repeat' ((with_reducible fail_if_success show Wp _ _ 16 _ _ _ _); (first
      | (with_reducible refine Wp.lt (by omega) (by omega) (fun _ => ?_) (fun _ => ?_) <;> try (exfalso; omega))
      | (with_reducible refine Wp.le (by omega) (by omega) (fun _ => ?_) (fun _ => ?_) <;> try (exfalso; omega))
      | (with_reducible refine Wp.eq (by omega) (by omega) (fun _ => ?_) (fun _ => ?_) <;> try (exfalso; omega))
      | (with_reducible refine Wp.ne (by omega) (by omega) (fun _ => ?_) (fun _ => ?_) <;> try (exfalso; omega))
      | with_reducible refine Wp.lt0 (by omega) ?_
      | with_reducible refine Wp.ge0 (by omega) ?_
      | (with_reducible refine Wp.bz (fun _ => ?_) (fun _ => ?_) <;> try contradiction)
      | (with_reducible refine Wp.bn (fun _ => ?_) (fun _ => ?_) <;> try contradiction)
      | (with_reducible refine Wp.br (fun _ => ?_) (fun _ => ?_) <;> try contradiction)
      | refine Wp.gik rfl (by assumption) (by with_reducible assumption) ?_
      | refine Wp.gi rfl (by assumption) ?_
      | refine Wp.gz rfl (by assumption) ?_
      | refine Wp.gr rfl (by assumption) (by assumption) ?_
      | refine Wp.gn rfl (by assumption) (by assumption) ?_
      | refine Wp.gl rfl (by assumption) ?_
      | refine Wp.addn rfl (by with_reducible rfl) (by with_reducible rfl) ?_
      | refine Wp.muln rfl (by with_reducible rfl) (by with_reducible rfl) ?_
      | refine Wp.subn rfl (by with_reducible rfl) (by with_reducible rfl) (by omega) ?_
      | (refine Wp.decn rfl rfl ?_; dsimp only [List.set])
      | (refine Wp.incn rfl rfl ?_; dsimp only [List.set])
      | (refine Wp.go rfl rfl ?_; try dsimp only [List.set])
      | refine Wp.pi rfl (by assumption) ?_
      | refine Wp.pr rfl (by assumption) ?_
      | refine Wp.pn rfl (by assumption) ?_
      | refine Wp.pl rfl (by assumption) ?_
      | refine Wp.aik rfl (by assumption) rfl (by first | with_reducible rfl | with_reducible assumption) (by omega) (by with_reducible assumption) ?_
      | refine Wp.aiN rfl (by assumption) rfl (by first | with_reducible rfl | with_reducible assumption) (by omega) ?_
      | refine Wp.siN rfl (by assumption) rfl (by first | with_reducible rfl | with_reducible assumption) (by omega) ?_
      | refine Wp.rt rfl rfl rfl rfl ?_
      | refine Wp.rz rfl rfl (by decide) ?_))
  rw [hup]
  iterate 1 (first
      | (with_reducible refine Wp.lt (by omega) (by omega) (fun _ => ?_) (fun _ => ?_) <;> try (exfalso; omega))
      | (with_reducible refine Wp.le (by omega) (by omega) (fun _ => ?_) (fun _ => ?_) <;> try (exfalso; omega))
      | (with_reducible refine Wp.eq (by omega) (by omega) (fun _ => ?_) (fun _ => ?_) <;> try (exfalso; omega))
      | (with_reducible refine Wp.ne (by omega) (by omega) (fun _ => ?_) (fun _ => ?_) <;> try (exfalso; omega))
      | with_reducible refine Wp.lt0 (by omega) ?_
      | with_reducible refine Wp.ge0 (by omega) ?_
      | (with_reducible refine Wp.bz (fun _ => ?_) (fun _ => ?_) <;> try contradiction)
      | (with_reducible refine Wp.bn (fun _ => ?_) (fun _ => ?_) <;> try contradiction)
      | (with_reducible refine Wp.br (fun _ => ?_) (fun _ => ?_) <;> try contradiction)
      | refine Wp.gik rfl (by assumption) (by with_reducible assumption) ?_
      | refine Wp.gi rfl (by assumption) ?_
      | refine Wp.gz rfl (by assumption) ?_
      | refine Wp.gr rfl (by assumption) (by assumption) ?_
      | refine Wp.gn rfl (by assumption) (by assumption) ?_
      | refine Wp.gl rfl (by assumption) ?_
      | refine Wp.addn rfl (by with_reducible rfl) (by with_reducible rfl) ?_
      | refine Wp.muln rfl (by with_reducible rfl) (by with_reducible rfl) ?_
      | refine Wp.subn rfl (by with_reducible rfl) (by with_reducible rfl) (by omega) ?_
      | (refine Wp.decn rfl rfl ?_; dsimp only [List.set])
      | (refine Wp.incn rfl rfl ?_; dsimp only [List.set])
      | (refine Wp.go rfl rfl ?_; try dsimp only [List.set])
      | refine Wp.pi rfl (by assumption) ?_
      | refine Wp.pr rfl (by assumption) ?_
      | refine Wp.pn rfl (by assumption) ?_
      | refine Wp.pl rfl (by assumption) ?_
      | refine Wp.aik rfl (by assumption) rfl (by first | with_reducible rfl | with_reducible assumption) (by omega) (by with_reducible assumption) ?_
      | refine Wp.aiN rfl (by assumption) rfl (by first | with_reducible rfl | with_reducible assumption) (by omega) ?_
      | refine Wp.siN rfl (by assumption) rfl (by first | with_reducible rfl | with_reducible assumption) (by omega) ?_
      | refine Wp.rt rfl rfl rfl rfl ?_
      | refine Wp.rz rfl rfl (by decide) ?_)
  refine Wp.br (fun _ => ?_) (fun hb => absurd (by decide) hb)
  repeat' ((with_reducible fail_if_success show Wp _ _ 25 _ _ _ _); (first
      | (with_reducible refine Wp.lt (by omega) (by omega) (fun _ => ?_) (fun _ => ?_) <;> try (exfalso; omega))
      | (with_reducible refine Wp.le (by omega) (by omega) (fun _ => ?_) (fun _ => ?_) <;> try (exfalso; omega))
      | (with_reducible refine Wp.eq (by omega) (by omega) (fun _ => ?_) (fun _ => ?_) <;> try (exfalso; omega))
      | (with_reducible refine Wp.ne (by omega) (by omega) (fun _ => ?_) (fun _ => ?_) <;> try (exfalso; omega))
      | with_reducible refine Wp.lt0 (by omega) ?_
      | with_reducible refine Wp.ge0 (by omega) ?_
      | (with_reducible refine Wp.bz (fun _ => ?_) (fun _ => ?_) <;> try contradiction)
      | (with_reducible refine Wp.bn (fun _ => ?_) (fun _ => ?_) <;> try contradiction)
      | (with_reducible refine Wp.br (fun _ => ?_) (fun _ => ?_) <;> try contradiction)
      | refine Wp.gik rfl (by assumption) (by with_reducible assumption) ?_
      | refine Wp.gi rfl (by assumption) ?_
      | refine Wp.gz rfl (by assumption) ?_
      | refine Wp.gr rfl (by assumption) (by assumption) ?_
      | refine Wp.gn rfl (by assumption) (by assumption) ?_
      | refine Wp.gl rfl (by assumption) ?_
      | refine Wp.addn rfl (by with_reducible rfl) (by with_reducible rfl) ?_
      | refine Wp.muln rfl (by with_reducible rfl) (by with_reducible rfl) ?_
      | refine Wp.subn rfl (by with_reducible rfl) (by with_reducible rfl) (by omega) ?_
      | (refine Wp.decn rfl rfl ?_; dsimp only [List.set])
      | (refine Wp.incn rfl rfl ?_; dsimp only [List.set])
      | (refine Wp.go rfl rfl ?_; try dsimp only [List.set])
      | refine Wp.pi rfl (by assumption) ?_
      | refine Wp.pr rfl (by assumption) ?_
      | refine Wp.pn rfl (by assumption) ?_
      | refine Wp.pl rfl (by assumption) ?_
      | refine Wp.aik rfl (by assumption) rfl (by first | with_reducible rfl | with_reducible assumption) (by omega) (by with_reducible assumption) ?_
      | refine Wp.aiN rfl (by assumption) rfl (by first | with_reducible rfl | with_reducible assumption) (by omega) ?_
      | refine Wp.siN rfl (by assumption) rfl (by first | with_reducible rfl | with_reducible assumption) (by omega) ?_
      | refine Wp.rt rfl rfl rfl rfl ?_
      | refine Wp.rz rfl rfl (by decide) ?_))
  refine Wp.V0i rfl m8 rfl (w_size (d + 5) h) ?_
  repeat' ((with_reducible fail_if_success show Wp _ _ 34 _ _ _ _); (first
      | (with_reducible refine Wp.lt (by omega) (by omega) (fun _ => ?_) (fun _ => ?_) <;> try (exfalso; omega))
      | (with_reducible refine Wp.le (by omega) (by omega) (fun _ => ?_) (fun _ => ?_) <;> try (exfalso; omega))
      | (with_reducible refine Wp.eq (by omega) (by omega) (fun _ => ?_) (fun _ => ?_) <;> try (exfalso; omega))
      | (with_reducible refine Wp.ne (by omega) (by omega) (fun _ => ?_) (fun _ => ?_) <;> try (exfalso; omega))
      | with_reducible refine Wp.lt0 (by omega) ?_
      | with_reducible refine Wp.ge0 (by omega) ?_
      | (with_reducible refine Wp.bz (fun _ => ?_) (fun _ => ?_) <;> try contradiction)
      | (with_reducible refine Wp.bn (fun _ => ?_) (fun _ => ?_) <;> try contradiction)
      | (with_reducible refine Wp.br (fun _ => ?_) (fun _ => ?_) <;> try contradiction)
      | refine Wp.gik rfl (by assumption) (by with_reducible assumption) ?_
      | refine Wp.gi rfl (by assumption) ?_
      | refine Wp.gz rfl (by assumption) ?_
      | refine Wp.gr rfl (by assumption) (by assumption) ?_
      | refine Wp.gn rfl (by assumption) (by assumption) ?_
      | refine Wp.gl rfl (by assumption) ?_
      | refine Wp.addn rfl (by with_reducible rfl) (by with_reducible rfl) ?_
      | refine Wp.muln rfl (by with_reducible rfl) (by with_reducible rfl) ?_
      | refine Wp.subn rfl (by with_reducible rfl) (by with_reducible rfl) (by omega) ?_
      | (refine Wp.decn rfl rfl ?_; dsimp only [List.set])
      | (refine Wp.incn rfl rfl ?_; dsimp only [List.set])
      | (refine Wp.go rfl rfl ?_; try dsimp only [List.set])
      | refine Wp.pi rfl (by assumption) ?_
      | refine Wp.pr rfl (by assumption) ?_
      | refine Wp.pn rfl (by assumption) ?_
      | refine Wp.pl rfl (by assumption) ?_
      | refine Wp.aik rfl (by assumption) rfl (by first | with_reducible rfl | with_reducible assumption) (by omega) (by with_reducible assumption) ?_
      | refine Wp.aiN rfl (by assumption) rfl (by first | with_reducible rfl | with_reducible assumption) (by omega) ?_
      | refine Wp.siN rfl (by assumption) rfl (by first | with_reducible rfl | with_reducible assumption) (by omega) ?_
      | refine Wp.rt rfl rfl rfl rfl ?_
      | refine Wp.rz rfl rfl (by decide) ?_))
  refine Wp.aq rfl m5 (by decide) hr (by decide) (m6 r hr) ?_
  repeat' ((with_reducible fail_if_success show Wp _ _ 35 _ _ _ _); (first
      | (with_reducible refine Wp.lt (by omega) (by omega) (fun _ => ?_) (fun _ => ?_) <;> try (exfalso; omega))
      | (with_reducible refine Wp.le (by omega) (by omega) (fun _ => ?_) (fun _ => ?_) <;> try (exfalso; omega))
      | (with_reducible refine Wp.eq (by omega) (by omega) (fun _ => ?_) (fun _ => ?_) <;> try (exfalso; omega))
      | (with_reducible refine Wp.ne (by omega) (by omega) (fun _ => ?_) (fun _ => ?_) <;> try (exfalso; omega))
      | with_reducible refine Wp.lt0 (by omega) ?_
      | with_reducible refine Wp.ge0 (by omega) ?_
      | (with_reducible refine Wp.bz (fun _ => ?_) (fun _ => ?_) <;> try contradiction)
      | (with_reducible refine Wp.bn (fun _ => ?_) (fun _ => ?_) <;> try contradiction)
      | (with_reducible refine Wp.br (fun _ => ?_) (fun _ => ?_) <;> try contradiction)
      | refine Wp.gik rfl (by assumption) (by with_reducible assumption) ?_
      | refine Wp.gi rfl (by assumption) ?_
      | refine Wp.gz rfl (by assumption) ?_
      | refine Wp.gr rfl (by assumption) (by assumption) ?_
      | refine Wp.gn rfl (by assumption) (by assumption) ?_
      | refine Wp.gl rfl (by assumption) ?_
      | refine Wp.addn rfl (by with_reducible rfl) (by with_reducible rfl) ?_
      | refine Wp.muln rfl (by with_reducible rfl) (by with_reducible rfl) ?_
      | refine Wp.subn rfl (by with_reducible rfl) (by with_reducible rfl) (by omega) ?_
      | (refine Wp.decn rfl rfl ?_; dsimp only [List.set])
      | (refine Wp.incn rfl rfl ?_; dsimp only [List.set])
      | (refine Wp.go rfl rfl ?_; try dsimp only [List.set])
      | refine Wp.pi rfl (by assumption) ?_
      | refine Wp.pr rfl (by assumption) ?_
      | refine Wp.pn rfl (by assumption) ?_
      | refine Wp.pl rfl (by assumption) ?_
      | refine Wp.aik rfl (by assumption) rfl (by first | with_reducible rfl | with_reducible assumption) (by omega) (by with_reducible assumption) ?_
      | refine Wp.aiN rfl (by assumption) rfl (by first | with_reducible rfl | with_reducible assumption) (by omega) ?_
      | refine Wp.siN rfl (by assumption) rfl (by first | with_reducible rfl | with_reducible assumption) (by omega) ?_
      | refine Wp.rt rfl rfl rfl rfl ?_
      | refine Wp.rz rfl rfl (by decide) ?_))
  refine Wp.V0 rfl p1 rfl (k_strike d h hr hp hp2) (fun M' v hq => ?_)
  obtain ⟨k1, k2, rfl⟩ := hq
  show Wp (d + 6) 80 38 _ [] M' _
  obtain ⟨m1', m2', m3', m4', m5', m6', m7', m8'⟩ := k1.hm
  repeat' ((with_reducible fail_if_success show Wp _ _ 42 _ _ _ _); (first
      | (with_reducible refine Wp.lt (by omega) (by omega) (fun _ => ?_) (fun _ => ?_) <;> try (exfalso; omega))
      | (with_reducible refine Wp.le (by omega) (by omega) (fun _ => ?_) (fun _ => ?_) <;> try (exfalso; omega))
      | (with_reducible refine Wp.eq (by omega) (by omega) (fun _ => ?_) (fun _ => ?_) <;> try (exfalso; omega))
      | (with_reducible refine Wp.ne (by omega) (by omega) (fun _ => ?_) (fun _ => ?_) <;> try (exfalso; omega))
      | with_reducible refine Wp.lt0 (by omega) ?_
      | with_reducible refine Wp.ge0 (by omega) ?_
      | (with_reducible refine Wp.bz (fun _ => ?_) (fun _ => ?_) <;> try contradiction)
      | (with_reducible refine Wp.bn (fun _ => ?_) (fun _ => ?_) <;> try contradiction)
      | (with_reducible refine Wp.br (fun _ => ?_) (fun _ => ?_) <;> try contradiction)
      | refine Wp.gik rfl (by assumption) (by with_reducible assumption) ?_
      | refine Wp.gi rfl (by assumption) ?_
      | refine Wp.gz rfl (by assumption) ?_
      | refine Wp.gr rfl (by assumption) (by assumption) ?_
      | refine Wp.gn rfl (by assumption) (by assumption) ?_
      | refine Wp.gl rfl (by assumption) ?_
      | refine Wp.addn rfl (by with_reducible rfl) (by with_reducible rfl) ?_
      | refine Wp.muln rfl (by with_reducible rfl) (by with_reducible rfl) ?_
      | refine Wp.subn rfl (by with_reducible rfl) (by with_reducible rfl) (by omega) ?_
      | (refine Wp.decn rfl rfl ?_; dsimp only [List.set])
      | (refine Wp.incn rfl rfl ?_; dsimp only [List.set])
      | (refine Wp.go rfl rfl ?_; try dsimp only [List.set])
      | refine Wp.pi rfl (by assumption) ?_
      | refine Wp.pr rfl (by assumption) ?_
      | refine Wp.pn rfl (by assumption) ?_
      | refine Wp.pl rfl (by assumption) ?_
      | refine Wp.aik rfl (by assumption) rfl (by first | with_reducible rfl | with_reducible assumption) (by omega) (by with_reducible assumption) ?_
      | refine Wp.aiN rfl (by assumption) rfl (by first | with_reducible rfl | with_reducible assumption) (by omega) ?_
      | refine Wp.siN rfl (by assumption) rfl (by first | with_reducible rfl | with_reducible assumption) (by omega) ?_
      | refine Wp.rt rfl rfl rfl rfl ?_
      | refine Wp.rz rfl rfl (by decide) ?_))
  refine Wp.V0i rfl m8' rfl (w_size (d + 5) k1) ?_
  repeat' (first
      | (with_reducible refine Wp.lt (by omega) (by omega) (fun _ => ?_) (fun _ => ?_) <;> try (exfalso; omega))
      | (with_reducible refine Wp.le (by omega) (by omega) (fun _ => ?_) (fun _ => ?_) <;> try (exfalso; omega))
      | (with_reducible refine Wp.eq (by omega) (by omega) (fun _ => ?_) (fun _ => ?_) <;> try (exfalso; omega))
      | (with_reducible refine Wp.ne (by omega) (by omega) (fun _ => ?_) (fun _ => ?_) <;> try (exfalso; omega))
      | with_reducible refine Wp.lt0 (by omega) ?_
      | with_reducible refine Wp.ge0 (by omega) ?_
      | (with_reducible refine Wp.bz (fun _ => ?_) (fun _ => ?_) <;> try contradiction)
      | (with_reducible refine Wp.bn (fun _ => ?_) (fun _ => ?_) <;> try contradiction)
      | (with_reducible refine Wp.br (fun _ => ?_) (fun _ => ?_) <;> try contradiction)
      | refine Wp.gik rfl (by assumption) (by with_reducible assumption) ?_
      | refine Wp.gi rfl (by assumption) ?_
      | refine Wp.gz rfl (by assumption) ?_
      | refine Wp.gr rfl (by assumption) (by assumption) ?_
      | refine Wp.gn rfl (by assumption) (by assumption) ?_
      | refine Wp.gl rfl (by assumption) ?_
      | refine Wp.addn rfl (by with_reducible rfl) (by with_reducible rfl) ?_
      | refine Wp.muln rfl (by with_reducible rfl) (by with_reducible rfl) ?_
      | refine Wp.subn rfl (by with_reducible rfl) (by with_reducible rfl) (by omega) ?_
      | (refine Wp.decn rfl rfl ?_; dsimp only [List.set])
      | (refine Wp.incn rfl rfl ?_; dsimp only [List.set])
      | (refine Wp.go rfl rfl ?_; try dsimp only [List.set])
      | refine Wp.pi rfl (by assumption) ?_
      | refine Wp.pr rfl (by assumption) ?_
      | refine Wp.pn rfl (by assumption) ?_
      | refine Wp.pl rfl (by assumption) ?_
      | refine Wp.aik rfl (by assumption) rfl (by first | with_reducible rfl | with_reducible assumption) (by omega) (by with_reducible assumption) ?_
      | refine Wp.aiN rfl (by assumption) rfl (by first | with_reducible rfl | with_reducible assumption) (by omega) ?_
      | refine Wp.siN rfl (by assumption) rfl (by first | with_reducible rfl | with_reducible assumption) (by omega) ?_
      | refine Wp.rt rfl rfl rfl rfl ?_
      | refine Wp.rz rfl rfl (by decide) ?_)
  exact ⟨k1, k2, rfl⟩
set_option maxHeartbeats 4000000 in
theorem k_no (d : Nat) {x : Int32} (h : Rp M C) (hu : (f_rep x && decide (C.1 (9 + 13 * x.toNatClampNeg) 3 ≠ 0)) = false) : Ev (d + 7) 80 M [.ref 0, .int x] (fun M' v => M' = M ∧ v = some (.int (-1))) ∧ Ev (d + 7) 84 M [.ref 0, .int x] (fun M' v => M' = M ∧ v = some (.int (nI 0))) ∧ Ev (d + 7) 86 M [.ref 0, .int x] (fun M' v => M' = M ∧ v = some (.int (-1))) := by
  obtain ⟨m1, m2, m3, m4, m5, m6, m7, m8⟩ := h.hm
  by_cases hf : f_rep x = true
  · obtain ⟨r, hr, rfl⟩ := f_rep_x hf
    rw [hf, nI_clamp (by omega), Bool.true_and, decide_eq_false_iff_not, Classical.not_not] at hu
    have p1 := (h.f hr).1
    have hup : M.2.1 (9 + 13 * r) 3 = 0 := (h.1 _ _ (by omega)).trans hu
    refine ⟨?_, ?_, ?_⟩
    · refine Ev.of (ls := [some (.ref 0), some (.int (nI r)), none]) rfl rfl ?_
      repeat' ((with_reducible fail_if_success show Wp _ _ 1 _ _ _ _); (first
      | (with_reducible refine Wp.lt (by omega) (by omega) (fun _ => ?_) (fun _ => ?_) <;> try (exfalso; omega))
      | (with_reducible refine Wp.le (by omega) (by omega) (fun _ => ?_) (fun _ => ?_) <;> try (exfalso; omega))
      | (with_reducible refine Wp.eq (by omega) (by omega) (fun _ => ?_) (fun _ => ?_) <;> try (exfalso; omega))
      | (with_reducible refine Wp.ne (by omega) (by omega) (fun _ => ?_) (fun _ => ?_) <;> try (exfalso; omega))
      | with_reducible refine Wp.lt0 (by omega) ?_
      | with_reducible refine Wp.ge0 (by omega) ?_
      | (with_reducible refine Wp.bz (fun _ => ?_) (fun _ => ?_) <;> try contradiction)
      | (with_reducible refine Wp.bn (fun _ => ?_) (fun _ => ?_) <;> try contradiction)
      | (with_reducible refine Wp.br (fun _ => ?_) (fun _ => ?_) <;> try contradiction)
      | refine Wp.gik rfl (by assumption) (by with_reducible assumption) ?_
      | refine Wp.gi rfl (by assumption) ?_
      | refine Wp.gz rfl (by assumption) ?_
      | refine Wp.gr rfl (by assumption) (by assumption) ?_
      | refine Wp.gn rfl (by assumption) (by assumption) ?_
      | refine Wp.gl rfl (by assumption) ?_
      | refine Wp.addn rfl (by with_reducible rfl) (by with_reducible rfl) ?_
      | refine Wp.muln rfl (by with_reducible rfl) (by with_reducible rfl) ?_
      | refine Wp.subn rfl (by with_reducible rfl) (by with_reducible rfl) (by omega) ?_
      | (refine Wp.decn rfl rfl ?_; dsimp only [List.set])
      | (refine Wp.incn rfl rfl ?_; dsimp only [List.set])
      | (refine Wp.go rfl rfl ?_; try dsimp only [List.set])
      | refine Wp.pi rfl (by assumption) ?_
      | refine Wp.pr rfl (by assumption) ?_
      | refine Wp.pn rfl (by assumption) ?_
      | refine Wp.pl rfl (by assumption) ?_
      | refine Wp.aik rfl (by assumption) rfl (by first | with_reducible rfl | with_reducible assumption) (by omega) (by with_reducible assumption) ?_
      | refine Wp.aiN rfl (by assumption) rfl (by first | with_reducible rfl | with_reducible assumption) (by omega) ?_
      | refine Wp.siN rfl (by assumption) rfl (by first | with_reducible rfl | with_reducible assumption) (by omega) ?_
      | refine Wp.rt rfl rfl rfl rfl ?_
      | refine Wp.rz rfl rfl (by decide) ?_))
      refine Wp.S1i rfl rfl (k_isRep (d + 5) M.2.1 (Z := zO M) (nI r)).ev0 ?_
      rw [f_rep_n hr]
      repeat' ((with_reducible fail_if_success show Wp _ _ 12 _ _ _ _); (first
      | (with_reducible refine Wp.lt (by omega) (by omega) (fun _ => ?_) (fun _ => ?_) <;> try (exfalso; omega))
      | (with_reducible refine Wp.le (by omega) (by omega) (fun _ => ?_) (fun _ => ?_) <;> try (exfalso; omega))
      | (with_reducible refine Wp.eq (by omega) (by omega) (fun _ => ?_) (fun _ => ?_) <;> try (exfalso; omega))
      | (with_reducible refine Wp.ne (by omega) (by omega) (fun _ => ?_) (fun _ => ?_) <;> try (exfalso; omega))
      | with_reducible refine Wp.lt0 (by omega) ?_
      | with_reducible refine Wp.ge0 (by omega) ?_
      | (with_reducible refine Wp.bz (fun _ => ?_) (fun _ => ?_) <;> try contradiction)
      | (with_reducible refine Wp.bn (fun _ => ?_) (fun _ => ?_) <;> try contradiction)
      | (with_reducible refine Wp.br (fun _ => ?_) (fun _ => ?_) <;> try contradiction)
      | refine Wp.gik rfl (by assumption) (by with_reducible assumption) ?_
      | refine Wp.gi rfl (by assumption) ?_
      | refine Wp.gz rfl (by assumption) ?_
      | refine Wp.gr rfl (by assumption) (by assumption) ?_
      | refine Wp.gn rfl (by assumption) (by assumption) ?_
      | refine Wp.gl rfl (by assumption) ?_
      | refine Wp.addn rfl (by with_reducible rfl) (by with_reducible rfl) ?_
      | refine Wp.muln rfl (by with_reducible rfl) (by with_reducible rfl) ?_
      | refine Wp.subn rfl (by with_reducible rfl) (by with_reducible rfl) (by omega) ?_
      | (refine Wp.decn rfl rfl ?_; dsimp only [List.set])
      | (refine Wp.incn rfl rfl ?_; dsimp only [List.set])
      | (refine Wp.go rfl rfl ?_; try dsimp only [List.set])
      | refine Wp.pi rfl (by assumption) ?_
      | refine Wp.pr rfl (by assumption) ?_
      | refine Wp.pn rfl (by assumption) ?_
      | refine Wp.pl rfl (by assumption) ?_
      | refine Wp.aik rfl (by assumption) rfl (by first | with_reducible rfl | with_reducible assumption) (by omega) (by with_reducible assumption) ?_
      | refine Wp.aiN rfl (by assumption) rfl (by first | with_reducible rfl | with_reducible assumption) (by omega) ?_
      | refine Wp.siN rfl (by assumption) rfl (by first | with_reducible rfl | with_reducible assumption) (by omega) ?_
      | refine Wp.rt rfl rfl rfl rfl ?_
      | refine Wp.rz rfl rfl (by decide) ?_))
      refine Wp.aq rfl m5 (by decide) hr (by decide) (m6 r hr) ?_
      repeat' ((with_reducible fail_if_success show Wp _ _ 16 _ _ _ _); (first
      | (with_reducible refine Wp.lt (by omega) (by omega) (fun _ => ?_) (fun _ => ?_) <;> try (exfalso; omega))
      | (with_reducible refine Wp.le (by omega) (by omega) (fun _ => ?_) (fun _ => ?_) <;> try (exfalso; omega))
      | (with_reducible refine Wp.eq (by omega) (by omega) (fun _ => ?_) (fun _ => ?_) <;> try (exfalso; omega))
      | (with_reducible refine Wp.ne (by omega) (by omega) (fun _ => ?_) (fun _ => ?_) <;> try (exfalso; omega))
      | with_reducible refine Wp.lt0 (by omega) ?_
      | with_reducible refine Wp.ge0 (by omega) ?_
      | (with_reducible refine Wp.bz (fun _ => ?_) (fun _ => ?_) <;> try contradiction)
      | (with_reducible refine Wp.bn (fun _ => ?_) (fun _ => ?_) <;> try contradiction)
      | (with_reducible refine Wp.br (fun _ => ?_) (fun _ => ?_) <;> try contradiction)
      | refine Wp.gik rfl (by assumption) (by with_reducible assumption) ?_
      | refine Wp.gi rfl (by assumption) ?_
      | refine Wp.gz rfl (by assumption) ?_
      | refine Wp.gr rfl (by assumption) (by assumption) ?_
      | refine Wp.gn rfl (by assumption) (by assumption) ?_
      | refine Wp.gl rfl (by assumption) ?_
      | refine Wp.addn rfl (by with_reducible rfl) (by with_reducible rfl) ?_
      | refine Wp.muln rfl (by with_reducible rfl) (by with_reducible rfl) ?_
      | refine Wp.subn rfl (by with_reducible rfl) (by with_reducible rfl) (by omega) ?_
      | (refine Wp.decn rfl rfl ?_; dsimp only [List.set])
      | (refine Wp.incn rfl rfl ?_; dsimp only [List.set])
      | (refine Wp.go rfl rfl ?_; try dsimp only [List.set])
      | refine Wp.pi rfl (by assumption) ?_
      | refine Wp.pr rfl (by assumption) ?_
      | refine Wp.pn rfl (by assumption) ?_
      | refine Wp.pl rfl (by assumption) ?_
      | refine Wp.aik rfl (by assumption) rfl (by first | with_reducible rfl | with_reducible assumption) (by omega) (by with_reducible assumption) ?_
      | refine Wp.aiN rfl (by assumption) rfl (by first | with_reducible rfl | with_reducible assumption) (by omega) ?_
      | refine Wp.siN rfl (by assumption) rfl (by first | with_reducible rfl | with_reducible assumption) (by omega) ?_
      | refine Wp.rt rfl rfl rfl rfl ?_
      | refine Wp.rz rfl rfl (by decide) ?_))
      rw [hup]
      iterate 1 (first
      | (with_reducible refine Wp.lt (by omega) (by omega) (fun _ => ?_) (fun _ => ?_) <;> try (exfalso; omega))
      | (with_reducible refine Wp.le (by omega) (by omega) (fun _ => ?_) (fun _ => ?_) <;> try (exfalso; omega))
      | (with_reducible refine Wp.eq (by omega) (by omega) (fun _ => ?_) (fun _ => ?_) <;> try (exfalso; omega))
      | (with_reducible refine Wp.ne (by omega) (by omega) (fun _ => ?_) (fun _ => ?_) <;> try (exfalso; omega))
      | with_reducible refine Wp.lt0 (by omega) ?_
      | with_reducible refine Wp.ge0 (by omega) ?_
      | (with_reducible refine Wp.bz (fun _ => ?_) (fun _ => ?_) <;> try contradiction)
      | (with_reducible refine Wp.bn (fun _ => ?_) (fun _ => ?_) <;> try contradiction)
      | (with_reducible refine Wp.br (fun _ => ?_) (fun _ => ?_) <;> try contradiction)
      | refine Wp.gik rfl (by assumption) (by with_reducible assumption) ?_
      | refine Wp.gi rfl (by assumption) ?_
      | refine Wp.gz rfl (by assumption) ?_
      | refine Wp.gr rfl (by assumption) (by assumption) ?_
      | refine Wp.gn rfl (by assumption) (by assumption) ?_
      | refine Wp.gl rfl (by assumption) ?_
      | refine Wp.addn rfl (by with_reducible rfl) (by with_reducible rfl) ?_
      | refine Wp.muln rfl (by with_reducible rfl) (by with_reducible rfl) ?_
      | refine Wp.subn rfl (by with_reducible rfl) (by with_reducible rfl) (by omega) ?_
      | (refine Wp.decn rfl rfl ?_; dsimp only [List.set])
      | (refine Wp.incn rfl rfl ?_; dsimp only [List.set])
      | (refine Wp.go rfl rfl ?_; try dsimp only [List.set])
      | refine Wp.pi rfl (by assumption) ?_
      | refine Wp.pr rfl (by assumption) ?_
      | refine Wp.pn rfl (by assumption) ?_
      | refine Wp.pl rfl (by assumption) ?_
      | refine Wp.aik rfl (by assumption) rfl (by first | with_reducible rfl | with_reducible assumption) (by omega) (by with_reducible assumption) ?_
      | refine Wp.aiN rfl (by assumption) rfl (by first | with_reducible rfl | with_reducible assumption) (by omega) ?_
      | refine Wp.siN rfl (by assumption) rfl (by first | with_reducible rfl | with_reducible assumption) (by omega) ?_
      | refine Wp.rt rfl rfl rfl rfl ?_
      | refine Wp.rz rfl rfl (by decide) ?_)
      refine Wp.br (fun hb => absurd hb (by decide)) (fun _ => ?_)
      repeat' (first
      | (with_reducible refine Wp.lt (by omega) (by omega) (fun _ => ?_) (fun _ => ?_) <;> try (exfalso; omega))
      | (with_reducible refine Wp.le (by omega) (by omega) (fun _ => ?_) (fun _ => ?_) <;> try (exfalso; omega))
      | (with_reducible refine Wp.eq (by omega) (by omega) (fun _ => ?_) (fun _ => ?_) <;> try (exfalso; omega))
      | (with_reducible refine Wp.ne (by omega) (by omega) (fun _ => ?_) (fun _ => ?_) <;> try (exfalso; omega))
      | with_reducible refine Wp.lt0 (by omega) ?_
      | with_reducible refine Wp.ge0 (by omega) ?_
      | (with_reducible refine Wp.bz (fun _ => ?_) (fun _ => ?_) <;> try contradiction)
      | (with_reducible refine Wp.bn (fun _ => ?_) (fun _ => ?_) <;> try contradiction)
      | (with_reducible refine Wp.br (fun _ => ?_) (fun _ => ?_) <;> try contradiction)
      | refine Wp.gik rfl (by assumption) (by with_reducible assumption) ?_
      | refine Wp.gi rfl (by assumption) ?_
      | refine Wp.gz rfl (by assumption) ?_
      | refine Wp.gr rfl (by assumption) (by assumption) ?_
      | refine Wp.gn rfl (by assumption) (by assumption) ?_
      | refine Wp.gl rfl (by assumption) ?_
      | refine Wp.addn rfl (by with_reducible rfl) (by with_reducible rfl) ?_
      | refine Wp.muln rfl (by with_reducible rfl) (by with_reducible rfl) ?_
      | refine Wp.subn rfl (by with_reducible rfl) (by with_reducible rfl) (by omega) ?_
      | (refine Wp.decn rfl rfl ?_; dsimp only [List.set])
      | (refine Wp.incn rfl rfl ?_; dsimp only [List.set])
      | (refine Wp.go rfl rfl ?_; try dsimp only [List.set])
      | refine Wp.pi rfl (by assumption) ?_
      | refine Wp.pr rfl (by assumption) ?_
      | refine Wp.pn rfl (by assumption) ?_
      | refine Wp.pl rfl (by assumption) ?_
      | refine Wp.aik rfl (by assumption) rfl (by first | with_reducible rfl | with_reducible assumption) (by omega) (by with_reducible assumption) ?_
      | refine Wp.aiN rfl (by assumption) rfl (by first | with_reducible rfl | with_reducible assumption) (by omega) ?_
      | refine Wp.siN rfl (by assumption) rfl (by first | with_reducible rfl | with_reducible assumption) (by omega) ?_
      | refine Wp.rt rfl rfl rfl rfl ?_
      | refine Wp.rz rfl rfl (by decide) ?_)
      exact ⟨rfl, rfl⟩
    · refine Ev.of (ls := [some (.ref 0), some (.int (nI r))]) rfl rfl ?_
      repeat' ((with_reducible fail_if_success show Wp _ _ 1 _ _ _ _); (first
      | (with_reducible refine Wp.lt (by omega) (by omega) (fun _ => ?_) (fun _ => ?_) <;> try (exfalso; omega))
      | (with_reducible refine Wp.le (by omega) (by omega) (fun _ => ?_) (fun _ => ?_) <;> try (exfalso; omega))
      | (with_reducible refine Wp.eq (by omega) (by omega) (fun _ => ?_) (fun _ => ?_) <;> try (exfalso; omega))
      | (with_reducible refine Wp.ne (by omega) (by omega) (fun _ => ?_) (fun _ => ?_) <;> try (exfalso; omega))
      | with_reducible refine Wp.lt0 (by omega) ?_
      | with_reducible refine Wp.ge0 (by omega) ?_
      | (with_reducible refine Wp.bz (fun _ => ?_) (fun _ => ?_) <;> try contradiction)
      | (with_reducible refine Wp.bn (fun _ => ?_) (fun _ => ?_) <;> try contradiction)
      | (with_reducible refine Wp.br (fun _ => ?_) (fun _ => ?_) <;> try contradiction)
      | refine Wp.gik rfl (by assumption) (by with_reducible assumption) ?_
      | refine Wp.gi rfl (by assumption) ?_
      | refine Wp.gz rfl (by assumption) ?_
      | refine Wp.gr rfl (by assumption) (by assumption) ?_
      | refine Wp.gn rfl (by assumption) (by assumption) ?_
      | refine Wp.gl rfl (by assumption) ?_
      | refine Wp.addn rfl (by with_reducible rfl) (by with_reducible rfl) ?_
      | refine Wp.muln rfl (by with_reducible rfl) (by with_reducible rfl) ?_
      | refine Wp.subn rfl (by with_reducible rfl) (by with_reducible rfl) (by omega) ?_
      | (refine Wp.decn rfl rfl ?_; dsimp only [List.set])
      | (refine Wp.incn rfl rfl ?_; dsimp only [List.set])
      | (refine Wp.go rfl rfl ?_; try dsimp only [List.set])
      | refine Wp.pi rfl (by assumption) ?_
      | refine Wp.pr rfl (by assumption) ?_
      | refine Wp.pn rfl (by assumption) ?_
      | refine Wp.pl rfl (by assumption) ?_
      | refine Wp.aik rfl (by assumption) rfl (by first | with_reducible rfl | with_reducible assumption) (by omega) (by with_reducible assumption) ?_
      | refine Wp.aiN rfl (by assumption) rfl (by first | with_reducible rfl | with_reducible assumption) (by omega) ?_
      | refine Wp.siN rfl (by assumption) rfl (by first | with_reducible rfl | with_reducible assumption) (by omega) ?_
      | refine Wp.rt rfl rfl rfl rfl ?_
      | refine Wp.rz rfl rfl (by decide) ?_))
      refine Wp.S1i rfl rfl (k_isRep (d + 5) M.2.1 (Z := zO M) (nI r)).ev0 ?_
      rw [f_rep_n hr]
      repeat' ((with_reducible fail_if_success show Wp _ _ 12 _ _ _ _); (first
      | (with_reducible refine Wp.lt (by omega) (by omega) (fun _ => ?_) (fun _ => ?_) <;> try (exfalso; omega))
      | (with_reducible refine Wp.le (by omega) (by omega) (fun _ => ?_) (fun _ => ?_) <;> try (exfalso; omega))
      | (with_reducible refine Wp.eq (by omega) (by omega) (fun _ => ?_) (fun _ => ?_) <;> try (exfalso; omega))
      | (with_reducible refine Wp.ne (by omega) (by omega) (fun _ => ?_) (fun _ => ?_) <;> try (exfalso; omega))
      | with_reducible refine Wp.lt0 (by omega) ?_
      | with_reducible refine Wp.ge0 (by omega) ?_
      | (with_reducible refine Wp.bz (fun _ => ?_) (fun _ => ?_) <;> try contradiction)
      | (with_reducible refine Wp.bn (fun _ => ?_) (fun _ => ?_) <;> try contradiction)
      | (with_reducible refine Wp.br (fun _ => ?_) (fun _ => ?_) <;> try contradiction)
      | refine Wp.gik rfl (by assumption) (by with_reducible assumption) ?_
      | refine Wp.gi rfl (by assumption) ?_
      | refine Wp.gz rfl (by assumption) ?_
      | refine Wp.gr rfl (by assumption) (by assumption) ?_
      | refine Wp.gn rfl (by assumption) (by assumption) ?_
      | refine Wp.gl rfl (by assumption) ?_
      | refine Wp.addn rfl (by with_reducible rfl) (by with_reducible rfl) ?_
      | refine Wp.muln rfl (by with_reducible rfl) (by with_reducible rfl) ?_
      | refine Wp.subn rfl (by with_reducible rfl) (by with_reducible rfl) (by omega) ?_
      | (refine Wp.decn rfl rfl ?_; dsimp only [List.set])
      | (refine Wp.incn rfl rfl ?_; dsimp only [List.set])
      | (refine Wp.go rfl rfl ?_; try dsimp only [List.set])
      | refine Wp.pi rfl (by assumption) ?_
      | refine Wp.pr rfl (by assumption) ?_
      | refine Wp.pn rfl (by assumption) ?_
      | refine Wp.pl rfl (by assumption) ?_
      | refine Wp.aik rfl (by assumption) rfl (by first | with_reducible rfl | with_reducible assumption) (by omega) (by with_reducible assumption) ?_
      | refine Wp.aiN rfl (by assumption) rfl (by first | with_reducible rfl | with_reducible assumption) (by omega) ?_
      | refine Wp.siN rfl (by assumption) rfl (by first | with_reducible rfl | with_reducible assumption) (by omega) ?_
      | refine Wp.rt rfl rfl rfl rfl ?_
      | refine Wp.rz rfl rfl (by decide) ?_))
      refine Wp.aq rfl m5 (by decide) hr (by decide) (m6 r hr) ?_
      repeat' ((with_reducible fail_if_success show Wp _ _ 16 _ _ _ _); (first
      | (with_reducible refine Wp.lt (by omega) (by omega) (fun _ => ?_) (fun _ => ?_) <;> try (exfalso; omega))
      | (with_reducible refine Wp.le (by omega) (by omega) (fun _ => ?_) (fun _ => ?_) <;> try (exfalso; omega))
      | (with_reducible refine Wp.eq (by omega) (by omega) (fun _ => ?_) (fun _ => ?_) <;> try (exfalso; omega))
      | (with_reducible refine Wp.ne (by omega) (by omega) (fun _ => ?_) (fun _ => ?_) <;> try (exfalso; omega))
      | with_reducible refine Wp.lt0 (by omega) ?_
      | with_reducible refine Wp.ge0 (by omega) ?_
      | (with_reducible refine Wp.bz (fun _ => ?_) (fun _ => ?_) <;> try contradiction)
      | (with_reducible refine Wp.bn (fun _ => ?_) (fun _ => ?_) <;> try contradiction)
      | (with_reducible refine Wp.br (fun _ => ?_) (fun _ => ?_) <;> try contradiction)
      | refine Wp.gik rfl (by assumption) (by with_reducible assumption) ?_
      | refine Wp.gi rfl (by assumption) ?_
      | refine Wp.gz rfl (by assumption) ?_
      | refine Wp.gr rfl (by assumption) (by assumption) ?_
      | refine Wp.gn rfl (by assumption) (by assumption) ?_
      | refine Wp.gl rfl (by assumption) ?_
      | refine Wp.addn rfl (by with_reducible rfl) (by with_reducible rfl) ?_
      | refine Wp.muln rfl (by with_reducible rfl) (by with_reducible rfl) ?_
      | refine Wp.subn rfl (by with_reducible rfl) (by with_reducible rfl) (by omega) ?_
      | (refine Wp.decn rfl rfl ?_; dsimp only [List.set])
      | (refine Wp.incn rfl rfl ?_; dsimp only [List.set])
      | (refine Wp.go rfl rfl ?_; try dsimp only [List.set])
      | refine Wp.pi rfl (by assumption) ?_
      | refine Wp.pr rfl (by assumption) ?_
      | refine Wp.pn rfl (by assumption) ?_
      | refine Wp.pl rfl (by assumption) ?_
      | refine Wp.aik rfl (by assumption) rfl (by first | with_reducible rfl | with_reducible assumption) (by omega) (by with_reducible assumption) ?_
      | refine Wp.aiN rfl (by assumption) rfl (by first | with_reducible rfl | with_reducible assumption) (by omega) ?_
      | refine Wp.siN rfl (by assumption) rfl (by first | with_reducible rfl | with_reducible assumption) (by omega) ?_
      | refine Wp.rt rfl rfl rfl rfl ?_
      | refine Wp.rz rfl rfl (by decide) ?_))
      rw [hup]
      iterate 1 (first
      | (with_reducible refine Wp.lt (by omega) (by omega) (fun _ => ?_) (fun _ => ?_) <;> try (exfalso; omega))
      | (with_reducible refine Wp.le (by omega) (by omega) (fun _ => ?_) (fun _ => ?_) <;> try (exfalso; omega))
      | (with_reducible refine Wp.eq (by omega) (by omega) (fun _ => ?_) (fun _ => ?_) <;> try (exfalso; omega))
      | (with_reducible refine Wp.ne (by omega) (by omega) (fun _ => ?_) (fun _ => ?_) <;> try (exfalso; omega))
      | with_reducible refine Wp.lt0 (by omega) ?_
      | with_reducible refine Wp.ge0 (by omega) ?_
      | (with_reducible refine Wp.bz (fun _ => ?_) (fun _ => ?_) <;> try contradiction)
      | (with_reducible refine Wp.bn (fun _ => ?_) (fun _ => ?_) <;> try contradiction)
      | (with_reducible refine Wp.br (fun _ => ?_) (fun _ => ?_) <;> try contradiction)
      | refine Wp.gik rfl (by assumption) (by with_reducible assumption) ?_
      | refine Wp.gi rfl (by assumption) ?_
      | refine Wp.gz rfl (by assumption) ?_
      | refine Wp.gr rfl (by assumption) (by assumption) ?_
      | refine Wp.gn rfl (by assumption) (by assumption) ?_
      | refine Wp.gl rfl (by assumption) ?_
      | refine Wp.addn rfl (by with_reducible rfl) (by with_reducible rfl) ?_
      | refine Wp.muln rfl (by with_reducible rfl) (by with_reducible rfl) ?_
      | refine Wp.subn rfl (by with_reducible rfl) (by with_reducible rfl) (by omega) ?_
      | (refine Wp.decn rfl rfl ?_; dsimp only [List.set])
      | (refine Wp.incn rfl rfl ?_; dsimp only [List.set])
      | (refine Wp.go rfl rfl ?_; try dsimp only [List.set])
      | refine Wp.pi rfl (by assumption) ?_
      | refine Wp.pr rfl (by assumption) ?_
      | refine Wp.pn rfl (by assumption) ?_
      | refine Wp.pl rfl (by assumption) ?_
      | refine Wp.aik rfl (by assumption) rfl (by first | with_reducible rfl | with_reducible assumption) (by omega) (by with_reducible assumption) ?_
      | refine Wp.aiN rfl (by assumption) rfl (by first | with_reducible rfl | with_reducible assumption) (by omega) ?_
      | refine Wp.siN rfl (by assumption) rfl (by first | with_reducible rfl | with_reducible assumption) (by omega) ?_
      | refine Wp.rt rfl rfl rfl rfl ?_
      | refine Wp.rz rfl rfl (by decide) ?_)
      refine Wp.br (fun hb => absurd hb (by decide)) (fun _ => ?_)
      repeat' (first
      | (with_reducible refine Wp.lt (by omega) (by omega) (fun _ => ?_) (fun _ => ?_) <;> try (exfalso; omega))
      | (with_reducible refine Wp.le (by omega) (by omega) (fun _ => ?_) (fun _ => ?_) <;> try (exfalso; omega))
      | (with_reducible refine Wp.eq (by omega) (by omega) (fun _ => ?_) (fun _ => ?_) <;> try (exfalso; omega))
      | (with_reducible refine Wp.ne (by omega) (by omega) (fun _ => ?_) (fun _ => ?_) <;> try (exfalso; omega))
      | with_reducible refine Wp.lt0 (by omega) ?_
      | with_reducible refine Wp.ge0 (by omega) ?_
      | (with_reducible refine Wp.bz (fun _ => ?_) (fun _ => ?_) <;> try contradiction)
      | (with_reducible refine Wp.bn (fun _ => ?_) (fun _ => ?_) <;> try contradiction)
      | (with_reducible refine Wp.br (fun _ => ?_) (fun _ => ?_) <;> try contradiction)
      | refine Wp.gik rfl (by assumption) (by with_reducible assumption) ?_
      | refine Wp.gi rfl (by assumption) ?_
      | refine Wp.gz rfl (by assumption) ?_
      | refine Wp.gr rfl (by assumption) (by assumption) ?_
      | refine Wp.gn rfl (by assumption) (by assumption) ?_
      | refine Wp.gl rfl (by assumption) ?_
      | refine Wp.addn rfl (by with_reducible rfl) (by with_reducible rfl) ?_
      | refine Wp.muln rfl (by with_reducible rfl) (by with_reducible rfl) ?_
      | refine Wp.subn rfl (by with_reducible rfl) (by with_reducible rfl) (by omega) ?_
      | (refine Wp.decn rfl rfl ?_; dsimp only [List.set])
      | (refine Wp.incn rfl rfl ?_; dsimp only [List.set])
      | (refine Wp.go rfl rfl ?_; try dsimp only [List.set])
      | refine Wp.pi rfl (by assumption) ?_
      | refine Wp.pr rfl (by assumption) ?_
      | refine Wp.pn rfl (by assumption) ?_
      | refine Wp.pl rfl (by assumption) ?_
      | refine Wp.aik rfl (by assumption) rfl (by first | with_reducible rfl | with_reducible assumption) (by omega) (by with_reducible assumption) ?_
      | refine Wp.aiN rfl (by assumption) rfl (by first | with_reducible rfl | with_reducible assumption) (by omega) ?_
      | refine Wp.siN rfl (by assumption) rfl (by first | with_reducible rfl | with_reducible assumption) (by omega) ?_
      | refine Wp.rt rfl rfl rfl rfl ?_
      | refine Wp.rz rfl rfl (by decide) ?_)
      exact ⟨rfl, rfl⟩
    · refine Ev.of (ls := [some (.ref 0), some (.int (nI r))]) rfl rfl ?_
      repeat' ((with_reducible fail_if_success show Wp _ _ 1 _ _ _ _); (first
      | (with_reducible refine Wp.lt (by omega) (by omega) (fun _ => ?_) (fun _ => ?_) <;> try (exfalso; omega))
      | (with_reducible refine Wp.le (by omega) (by omega) (fun _ => ?_) (fun _ => ?_) <;> try (exfalso; omega))
      | (with_reducible refine Wp.eq (by omega) (by omega) (fun _ => ?_) (fun _ => ?_) <;> try (exfalso; omega))
      | (with_reducible refine Wp.ne (by omega) (by omega) (fun _ => ?_) (fun _ => ?_) <;> try (exfalso; omega))
      | with_reducible refine Wp.lt0 (by omega) ?_
      | with_reducible refine Wp.ge0 (by omega) ?_
      | (with_reducible refine Wp.bz (fun _ => ?_) (fun _ => ?_) <;> try contradiction)
      | (with_reducible refine Wp.bn (fun _ => ?_) (fun _ => ?_) <;> try contradiction)
      | (with_reducible refine Wp.br (fun _ => ?_) (fun _ => ?_) <;> try contradiction)
      | refine Wp.gik rfl (by assumption) (by with_reducible assumption) ?_
      | refine Wp.gi rfl (by assumption) ?_
      | refine Wp.gz rfl (by assumption) ?_
      | refine Wp.gr rfl (by assumption) (by assumption) ?_
      | refine Wp.gn rfl (by assumption) (by assumption) ?_
      | refine Wp.gl rfl (by assumption) ?_
      | refine Wp.addn rfl (by with_reducible rfl) (by with_reducible rfl) ?_
      | refine Wp.muln rfl (by with_reducible rfl) (by with_reducible rfl) ?_
      | refine Wp.subn rfl (by with_reducible rfl) (by with_reducible rfl) (by omega) ?_
      | (refine Wp.decn rfl rfl ?_; dsimp only [List.set])
      | (refine Wp.incn rfl rfl ?_; dsimp only [List.set])
      | (refine Wp.go rfl rfl ?_; try dsimp only [List.set])
      | refine Wp.pi rfl (by assumption) ?_
      | refine Wp.pr rfl (by assumption) ?_
      | refine Wp.pn rfl (by assumption) ?_
      | refine Wp.pl rfl (by assumption) ?_
      | refine Wp.aik rfl (by assumption) rfl (by first | with_reducible rfl | with_reducible assumption) (by omega) (by with_reducible assumption) ?_
      | refine Wp.aiN rfl (by assumption) rfl (by first | with_reducible rfl | with_reducible assumption) (by omega) ?_
      | refine Wp.siN rfl (by assumption) rfl (by first | with_reducible rfl | with_reducible assumption) (by omega) ?_
      | refine Wp.rt rfl rfl rfl rfl ?_
      | refine Wp.rz rfl rfl (by decide) ?_))
      refine Wp.S1i rfl rfl (k_isRep (d + 5) M.2.1 (Z := zO M) (nI r)).ev0 ?_
      rw [f_rep_n hr]
      repeat' ((with_reducible fail_if_success show Wp _ _ 12 _ _ _ _); (first
      | (with_reducible refine Wp.lt (by omega) (by omega) (fun _ => ?_) (fun _ => ?_) <;> try (exfalso; omega))
      | (with_reducible refine Wp.le (by omega) (by omega) (fun _ => ?_) (fun _ => ?_) <;> try (exfalso; omega))
      | (with_reducible refine Wp.eq (by omega) (by omega) (fun _ => ?_) (fun _ => ?_) <;> try (exfalso; omega))
      | (with_reducible refine Wp.ne (by omega) (by omega) (fun _ => ?_) (fun _ => ?_) <;> try (exfalso; omega))
      | with_reducible refine Wp.lt0 (by omega) ?_
      | with_reducible refine Wp.ge0 (by omega) ?_
      | (with_reducible refine Wp.bz (fun _ => ?_) (fun _ => ?_) <;> try contradiction)
      | (with_reducible refine Wp.bn (fun _ => ?_) (fun _ => ?_) <;> try contradiction)
      | (with_reducible refine Wp.br (fun _ => ?_) (fun _ => ?_) <;> try contradiction)
      | refine Wp.gik rfl (by assumption) (by with_reducible assumption) ?_
      | refine Wp.gi rfl (by assumption) ?_
      | refine Wp.gz rfl (by assumption) ?_
      | refine Wp.gr rfl (by assumption) (by assumption) ?_
      | refine Wp.gn rfl (by assumption) (by assumption) ?_
      | refine Wp.gl rfl (by assumption) ?_
      | refine Wp.addn rfl (by with_reducible rfl) (by with_reducible rfl) ?_
      | refine Wp.muln rfl (by with_reducible rfl) (by with_reducible rfl) ?_
      | refine Wp.subn rfl (by with_reducible rfl) (by with_reducible rfl) (by omega) ?_
      | (refine Wp.decn rfl rfl ?_; dsimp only [List.set])
      | (refine Wp.incn rfl rfl ?_; dsimp only [List.set])
      | (refine Wp.go rfl rfl ?_; try dsimp only [List.set])
      | refine Wp.pi rfl (by assumption) ?_
      | refine Wp.pr rfl (by assumption) ?_
      | refine Wp.pn rfl (by assumption) ?_
      | refine Wp.pl rfl (by assumption) ?_
      | refine Wp.aik rfl (by assumption) rfl (by first | with_reducible rfl | with_reducible assumption) (by omega) (by with_reducible assumption) ?_
      | refine Wp.aiN rfl (by assumption) rfl (by first | with_reducible rfl | with_reducible assumption) (by omega) ?_
      | refine Wp.siN rfl (by assumption) rfl (by first | with_reducible rfl | with_reducible assumption) (by omega) ?_
      | refine Wp.rt rfl rfl rfl rfl ?_
      | refine Wp.rz rfl rfl (by decide) ?_))
      refine Wp.aq rfl m5 (by decide) hr (by decide) (m6 r hr) ?_
      repeat' ((with_reducible fail_if_success show Wp _ _ 16 _ _ _ _); (first
      | (with_reducible refine Wp.lt (by omega) (by omega) (fun _ => ?_) (fun _ => ?_) <;> try (exfalso; omega))
      | (with_reducible refine Wp.le (by omega) (by omega) (fun _ => ?_) (fun _ => ?_) <;> try (exfalso; omega))
      | (with_reducible refine Wp.eq (by omega) (by omega) (fun _ => ?_) (fun _ => ?_) <;> try (exfalso; omega))
      | (with_reducible refine Wp.ne (by omega) (by omega) (fun _ => ?_) (fun _ => ?_) <;> try (exfalso; omega))
      | with_reducible refine Wp.lt0 (by omega) ?_
      | with_reducible refine Wp.ge0 (by omega) ?_
      | (with_reducible refine Wp.bz (fun _ => ?_) (fun _ => ?_) <;> try contradiction)
      | (with_reducible refine Wp.bn (fun _ => ?_) (fun _ => ?_) <;> try contradiction)
      | (with_reducible refine Wp.br (fun _ => ?_) (fun _ => ?_) <;> try contradiction)
      | refine Wp.gik rfl (by assumption) (by with_reducible assumption) ?_
      | refine Wp.gi rfl (by assumption) ?_
      | refine Wp.gz rfl (by assumption) ?_
      | refine Wp.gr rfl (by assumption) (by assumption) ?_
      | refine Wp.gn rfl (by assumption) (by assumption) ?_
      | refine Wp.gl rfl (by assumption) ?_
      | refine Wp.addn rfl (by with_reducible rfl) (by with_reducible rfl) ?_
      | refine Wp.muln rfl (by with_reducible rfl) (by with_reducible rfl) ?_
      | refine Wp.subn rfl (by with_reducible rfl) (by with_reducible rfl) (by omega) ?_
      | (refine Wp.decn rfl rfl ?_; dsimp only [List.set])
      | (refine Wp.incn rfl rfl ?_; dsimp only [List.set])
      | (refine Wp.go rfl rfl ?_; try dsimp only [List.set])
      | refine Wp.pi rfl (by assumption) ?_
      | refine Wp.pr rfl (by assumption) ?_
      | refine Wp.pn rfl (by assumption) ?_
      | refine Wp.pl rfl (by assumption) ?_
      | refine Wp.aik rfl (by assumption) rfl (by first | with_reducible rfl | with_reducible assumption) (by omega) (by with_reducible assumption) ?_
      | refine Wp.aiN rfl (by assumption) rfl (by first | with_reducible rfl | with_reducible assumption) (by omega) ?_
      | refine Wp.siN rfl (by assumption) rfl (by first | with_reducible rfl | with_reducible assumption) (by omega) ?_
      | refine Wp.rt rfl rfl rfl rfl ?_
      | refine Wp.rz rfl rfl (by decide) ?_))
      rw [hup]
      iterate 1 (first
      | (with_reducible refine Wp.lt (by omega) (by omega) (fun _ => ?_) (fun _ => ?_) <;> try (exfalso; omega))
      | (with_reducible refine Wp.le (by omega) (by omega) (fun _ => ?_) (fun _ => ?_) <;> try (exfalso; omega))
      | (with_reducible refine Wp.eq (by omega) (by omega) (fun _ => ?_) (fun _ => ?_) <;> try (exfalso; omega))
      | (with_reducible refine Wp.ne (by omega) (by omega) (fun _ => ?_) (fun _ => ?_) <;> try (exfalso; omega))
      | with_reducible refine Wp.lt0 (by omega) ?_
      | with_reducible refine Wp.ge0 (by omega) ?_
      | (with_reducible refine Wp.bz (fun _ => ?_) (fun _ => ?_) <;> try contradiction)
      | (with_reducible refine Wp.bn (fun _ => ?_) (fun _ => ?_) <;> try contradiction)
      | (with_reducible refine Wp.br (fun _ => ?_) (fun _ => ?_) <;> try contradiction)
      | refine Wp.gik rfl (by assumption) (by with_reducible assumption) ?_
      | refine Wp.gi rfl (by assumption) ?_
      | refine Wp.gz rfl (by assumption) ?_
      | refine Wp.gr rfl (by assumption) (by assumption) ?_
      | refine Wp.gn rfl (by assumption) (by assumption) ?_
      | refine Wp.gl rfl (by assumption) ?_
      | refine Wp.addn rfl (by with_reducible rfl) (by with_reducible rfl) ?_
      | refine Wp.muln rfl (by with_reducible rfl) (by with_reducible rfl) ?_
      | refine Wp.subn rfl (by with_reducible rfl) (by with_reducible rfl) (by omega) ?_
      | (refine Wp.decn rfl rfl ?_; dsimp only [List.set])
      | (refine Wp.incn rfl rfl ?_; dsimp only [List.set])
      | (refine Wp.go rfl rfl ?_; try dsimp only [List.set])
      | refine Wp.pi rfl (by assumption) ?_
      | refine Wp.pr rfl (by assumption) ?_
      | refine Wp.pn rfl (by assumption) ?_
      | refine Wp.pl rfl (by assumption) ?_
      | refine Wp.aik rfl (by assumption) rfl (by first | with_reducible rfl | with_reducible assumption) (by omega) (by with_reducible assumption) ?_
      | refine Wp.aiN rfl (by assumption) rfl (by first | with_reducible rfl | with_reducible assumption) (by omega) ?_
      | refine Wp.siN rfl (by assumption) rfl (by first | with_reducible rfl | with_reducible assumption) (by omega) ?_
      | refine Wp.rt rfl rfl rfl rfl ?_
      | refine Wp.rz rfl rfl (by decide) ?_)
      refine Wp.br (fun hb => absurd hb (by decide)) (fun _ => ?_)
      repeat' (first
      | (with_reducible refine Wp.lt (by omega) (by omega) (fun _ => ?_) (fun _ => ?_) <;> try (exfalso; omega))
      | (with_reducible refine Wp.le (by omega) (by omega) (fun _ => ?_) (fun _ => ?_) <;> try (exfalso; omega))
      | (with_reducible refine Wp.eq (by omega) (by omega) (fun _ => ?_) (fun _ => ?_) <;> try (exfalso; omega))
      | (with_reducible refine Wp.ne (by omega) (by omega) (fun _ => ?_) (fun _ => ?_) <;> try (exfalso; omega))
      | with_reducible refine Wp.lt0 (by omega) ?_
      | with_reducible refine Wp.ge0 (by omega) ?_
      | (with_reducible refine Wp.bz (fun _ => ?_) (fun _ => ?_) <;> try contradiction)
      | (with_reducible refine Wp.bn (fun _ => ?_) (fun _ => ?_) <;> try contradiction)
      | (with_reducible refine Wp.br (fun _ => ?_) (fun _ => ?_) <;> try contradiction)
      | refine Wp.gik rfl (by assumption) (by with_reducible assumption) ?_
      | refine Wp.gi rfl (by assumption) ?_
      | refine Wp.gz rfl (by assumption) ?_
      | refine Wp.gr rfl (by assumption) (by assumption) ?_
      | refine Wp.gn rfl (by assumption) (by assumption) ?_
      | refine Wp.gl rfl (by assumption) ?_
      | refine Wp.addn rfl (by with_reducible rfl) (by with_reducible rfl) ?_
      | refine Wp.muln rfl (by with_reducible rfl) (by with_reducible rfl) ?_
      | refine Wp.subn rfl (by with_reducible rfl) (by with_reducible rfl) (by omega) ?_
      | (refine Wp.decn rfl rfl ?_; dsimp only [List.set])
      | (refine Wp.incn rfl rfl ?_; dsimp only [List.set])
      | (refine Wp.go rfl rfl ?_; try dsimp only [List.set])
      | refine Wp.pi rfl (by assumption) ?_
      | refine Wp.pr rfl (by assumption) ?_
      | refine Wp.pn rfl (by assumption) ?_
      | refine Wp.pl rfl (by assumption) ?_
      | refine Wp.aik rfl (by assumption) rfl (by first | with_reducible rfl | with_reducible assumption) (by omega) (by with_reducible assumption) ?_
      | refine Wp.aiN rfl (by assumption) rfl (by first | with_reducible rfl | with_reducible assumption) (by omega) ?_
      | refine Wp.siN rfl (by assumption) rfl (by first | with_reducible rfl | with_reducible assumption) (by omega) ?_
      | refine Wp.rt rfl rfl rfl rfl ?_
      | refine Wp.rz rfl rfl (by decide) ?_)
      exact ⟨rfl, rfl⟩
  · have hf' : f_rep x = false := Bool.not_eq_true _ ▸ hf
    refine ⟨?_, ?_, ?_⟩
    · refine Ev.of (ls := [some (.ref 0), some (.int x), none]) rfl rfl ?_
      repeat' ((with_reducible fail_if_success show Wp _ _ 1 _ _ _ _); (first
      | (with_reducible refine Wp.lt (by omega) (by omega) (fun _ => ?_) (fun _ => ?_) <;> try (exfalso; omega))
      | (with_reducible refine Wp.le (by omega) (by omega) (fun _ => ?_) (fun _ => ?_) <;> try (exfalso; omega))
      | (with_reducible refine Wp.eq (by omega) (by omega) (fun _ => ?_) (fun _ => ?_) <;> try (exfalso; omega))
      | (with_reducible refine Wp.ne (by omega) (by omega) (fun _ => ?_) (fun _ => ?_) <;> try (exfalso; omega))
      | with_reducible refine Wp.lt0 (by omega) ?_
      | with_reducible refine Wp.ge0 (by omega) ?_
      | (with_reducible refine Wp.bz (fun _ => ?_) (fun _ => ?_) <;> try contradiction)
      | (with_reducible refine Wp.bn (fun _ => ?_) (fun _ => ?_) <;> try contradiction)
      | (with_reducible refine Wp.br (fun _ => ?_) (fun _ => ?_) <;> try contradiction)
      | refine Wp.gik rfl (by assumption) (by with_reducible assumption) ?_
      | refine Wp.gi rfl (by assumption) ?_
      | refine Wp.gz rfl (by assumption) ?_
      | refine Wp.gr rfl (by assumption) (by assumption) ?_
      | refine Wp.gn rfl (by assumption) (by assumption) ?_
      | refine Wp.gl rfl (by assumption) ?_
      | refine Wp.addn rfl (by with_reducible rfl) (by with_reducible rfl) ?_
      | refine Wp.muln rfl (by with_reducible rfl) (by with_reducible rfl) ?_
      | refine Wp.subn rfl (by with_reducible rfl) (by with_reducible rfl) (by omega) ?_
      | (refine Wp.decn rfl rfl ?_; dsimp only [List.set])
      | (refine Wp.incn rfl rfl ?_; dsimp only [List.set])
      | (refine Wp.go rfl rfl ?_; try dsimp only [List.set])
      | refine Wp.pi rfl (by assumption) ?_
      | refine Wp.pr rfl (by assumption) ?_
      | refine Wp.pn rfl (by assumption) ?_
      | refine Wp.pl rfl (by assumption) ?_
      | refine Wp.aik rfl (by assumption) rfl (by first | with_reducible rfl | with_reducible assumption) (by omega) (by with_reducible assumption) ?_
      | refine Wp.aiN rfl (by assumption) rfl (by first | with_reducible rfl | with_reducible assumption) (by omega) ?_
      | refine Wp.siN rfl (by assumption) rfl (by first | with_reducible rfl | with_reducible assumption) (by omega) ?_
      | refine Wp.rt rfl rfl rfl rfl ?_
      | refine Wp.rz rfl rfl (by decide) ?_))
      refine Wp.S1i rfl rfl (k_isRep (d + 5) M.2.1 (Z := zO M) x).ev0 ?_
      rw [hf']
      repeat' (first
      | (with_reducible refine Wp.lt (by omega) (by omega) (fun _ => ?_) (fun _ => ?_) <;> try (exfalso; omega))
      | (with_reducible refine Wp.le (by omega) (by omega) (fun _ => ?_) (fun _ => ?_) <;> try (exfalso; omega))
      | (with_reducible refine Wp.eq (by omega) (by omega) (fun _ => ?_) (fun _ => ?_) <;> try (exfalso; omega))
      | (with_reducible refine Wp.ne (by omega) (by omega) (fun _ => ?_) (fun _ => ?_) <;> try (exfalso; omega))
      | with_reducible refine Wp.lt0 (by omega) ?_
      | with_reducible refine Wp.ge0 (by omega) ?_
      | (with_reducible refine Wp.bz (fun _ => ?_) (fun _ => ?_) <;> try contradiction)
      | (with_reducible refine Wp.bn (fun _ => ?_) (fun _ => ?_) <;> try contradiction)
      | (with_reducible refine Wp.br (fun _ => ?_) (fun _ => ?_) <;> try contradiction)
      | refine Wp.gik rfl (by assumption) (by with_reducible assumption) ?_
      | refine Wp.gi rfl (by assumption) ?_
      | refine Wp.gz rfl (by assumption) ?_
      | refine Wp.gr rfl (by assumption) (by assumption) ?_
      | refine Wp.gn rfl (by assumption) (by assumption) ?_
      | refine Wp.gl rfl (by assumption) ?_
      | refine Wp.addn rfl (by with_reducible rfl) (by with_reducible rfl) ?_
      | refine Wp.muln rfl (by with_reducible rfl) (by with_reducible rfl) ?_
      | refine Wp.subn rfl (by with_reducible rfl) (by with_reducible rfl) (by omega) ?_
      | (refine Wp.decn rfl rfl ?_; dsimp only [List.set])
      | (refine Wp.incn rfl rfl ?_; dsimp only [List.set])
      | (refine Wp.go rfl rfl ?_; try dsimp only [List.set])
      | refine Wp.pi rfl (by assumption) ?_
      | refine Wp.pr rfl (by assumption) ?_
      | refine Wp.pn rfl (by assumption) ?_
      | refine Wp.pl rfl (by assumption) ?_
      | refine Wp.aik rfl (by assumption) rfl (by first | with_reducible rfl | with_reducible assumption) (by omega) (by with_reducible assumption) ?_
      | refine Wp.aiN rfl (by assumption) rfl (by first | with_reducible rfl | with_reducible assumption) (by omega) ?_
      | refine Wp.siN rfl (by assumption) rfl (by first | with_reducible rfl | with_reducible assumption) (by omega) ?_
      | refine Wp.rt rfl rfl rfl rfl ?_
      | refine Wp.rz rfl rfl (by decide) ?_)
      exact ⟨rfl, rfl⟩
    · refine Ev.of (ls := [some (.ref 0), some (.int x)]) rfl rfl ?_
      repeat' ((with_reducible fail_if_success show Wp _ _ 1 _ _ _ _); (first
      | (with_reducible refine Wp.lt (by omega) (by omega) (fun _ => ?_) (fun _ => ?_) <;> try (exfalso; omega))
      | (with_reducible refine Wp.le (by omega) (by omega) (fun _ => ?_) (fun _ => ?_) <;> try (exfalso; omega))
      | (with_reducible refine Wp.eq (by omega) (by omega) (fun _ => ?_) (fun _ => ?_) <;> try (exfalso; omega))
      | (with_reducible refine Wp.ne (by omega) (by omega) (fun _ => ?_) (fun _ => ?_) <;> try (exfalso; omega))
      | with_reducible refine Wp.lt0 (by omega) ?_
      | with_reducible refine Wp.ge0 (by omega) ?_
      | (with_reducible refine Wp.bz (fun _ => ?_) (fun _ => ?_) <;> try contradiction)
      | (with_reducible refine Wp.bn (fun _ => ?_) (fun _ => ?_) <;> try contradiction)
      | (with_reducible refine Wp.br (fun _ => ?_) (fun _ => ?_) <;> try contradiction)
      | refine Wp.gik rfl (by assumption) (by with_reducible assumption) ?_
      | refine Wp.gi rfl (by assumption) ?_
      | refine Wp.gz rfl (by assumption) ?_
      | refine Wp.gr rfl (by assumption) (by assumption) ?_
      | refine Wp.gn rfl (by assumption) (by assumption) ?_
      | refine Wp.gl rfl (by assumption) ?_
      | refine Wp.addn rfl (by with_reducible rfl) (by with_reducible rfl) ?_
      | refine Wp.muln rfl (by with_reducible rfl) (by with_reducible rfl) ?_
      | refine Wp.subn rfl (by with_reducible rfl) (by with_reducible rfl) (by omega) ?_
      | (refine Wp.decn rfl rfl ?_; dsimp only [List.set])
      | (refine Wp.incn rfl rfl ?_; dsimp only [List.set])
      | (refine Wp.go rfl rfl ?_; try dsimp only [List.set])
      | refine Wp.pi rfl (by assumption) ?_
      | refine Wp.pr rfl (by assumption) ?_
      | refine Wp.pn rfl (by assumption) ?_
      | refine Wp.pl rfl (by assumption) ?_
      | refine Wp.aik rfl (by assumption) rfl (by first | with_reducible rfl | with_reducible assumption) (by omega) (by with_reducible assumption) ?_
      | refine Wp.aiN rfl (by assumption) rfl (by first | with_reducible rfl | with_reducible assumption) (by omega) ?_
      | refine Wp.siN rfl (by assumption) rfl (by first | with_reducible rfl | with_reducible assumption) (by omega) ?_
      | refine Wp.rt rfl rfl rfl rfl ?_
      | refine Wp.rz rfl rfl (by decide) ?_))
      refine Wp.S1i rfl rfl (k_isRep (d + 5) M.2.1 (Z := zO M) x).ev0 ?_
      rw [hf']
      repeat' (first
      | (with_reducible refine Wp.lt (by omega) (by omega) (fun _ => ?_) (fun _ => ?_) <;> try (exfalso; omega))
      | (with_reducible refine Wp.le (by omega) (by omega) (fun _ => ?_) (fun _ => ?_) <;> try (exfalso; omega))
      | (with_reducible refine Wp.eq (by omega) (by omega) (fun _ => ?_) (fun _ => ?_) <;> try (exfalso; omega))
      | (with_reducible refine Wp.ne (by omega) (by omega) (fun _ => ?_) (fun _ => ?_) <;> try (exfalso; omega))
      | with_reducible refine Wp.lt0 (by omega) ?_
      | with_reducible refine Wp.ge0 (by omega) ?_
      | (with_reducible refine Wp.bz (fun _ => ?_) (fun _ => ?_) <;> try contradiction)
      | (with_reducible refine Wp.bn (fun _ => ?_) (fun _ => ?_) <;> try contradiction)
      | (with_reducible refine Wp.br (fun _ => ?_) (fun _ => ?_) <;> try contradiction)
      | refine Wp.gik rfl (by assumption) (by with_reducible assumption) ?_
      | refine Wp.gi rfl (by assumption) ?_
      | refine Wp.gz rfl (by assumption) ?_
      | refine Wp.gr rfl (by assumption) (by assumption) ?_
      | refine Wp.gn rfl (by assumption) (by assumption) ?_
      | refine Wp.gl rfl (by assumption) ?_
      | refine Wp.addn rfl (by with_reducible rfl) (by with_reducible rfl) ?_
      | refine Wp.muln rfl (by with_reducible rfl) (by with_reducible rfl) ?_
      | refine Wp.subn rfl (by with_reducible rfl) (by with_reducible rfl) (by omega) ?_
      | (refine Wp.decn rfl rfl ?_; dsimp only [List.set])
      | (refine Wp.incn rfl rfl ?_; dsimp only [List.set])
      | (refine Wp.go rfl rfl ?_; try dsimp only [List.set])
      | refine Wp.pi rfl (by assumption) ?_
      | refine Wp.pr rfl (by assumption) ?_
      | refine Wp.pn rfl (by assumption) ?_
      | refine Wp.pl rfl (by assumption) ?_
      | refine Wp.aik rfl (by assumption) rfl (by first | with_reducible rfl | with_reducible assumption) (by omega) (by with_reducible assumption) ?_
      | refine Wp.aiN rfl (by assumption) rfl (by first | with_reducible rfl | with_reducible assumption) (by omega) ?_
      | refine Wp.siN rfl (by assumption) rfl (by first | with_reducible rfl | with_reducible assumption) (by omega) ?_
      | refine Wp.rt rfl rfl rfl rfl ?_
      | refine Wp.rz rfl rfl (by decide) ?_)
      exact ⟨rfl, rfl⟩
    · refine Ev.of (ls := [some (.ref 0), some (.int x)]) rfl rfl ?_
      repeat' ((with_reducible fail_if_success show Wp _ _ 1 _ _ _ _); (first
      | (with_reducible refine Wp.lt (by omega) (by omega) (fun _ => ?_) (fun _ => ?_) <;> try (exfalso; omega))
      | (with_reducible refine Wp.le (by omega) (by omega) (fun _ => ?_) (fun _ => ?_) <;> try (exfalso; omega))
      | (with_reducible refine Wp.eq (by omega) (by omega) (fun _ => ?_) (fun _ => ?_) <;> try (exfalso; omega))
      | (with_reducible refine Wp.ne (by omega) (by omega) (fun _ => ?_) (fun _ => ?_) <;> try (exfalso; omega))
      | with_reducible refine Wp.lt0 (by omega) ?_
      | with_reducible refine Wp.ge0 (by omega) ?_
      | (with_reducible refine Wp.bz (fun _ => ?_) (fun _ => ?_) <;> try contradiction)
      | (with_reducible refine Wp.bn (fun _ => ?_) (fun _ => ?_) <;> try contradiction)
      | (with_reducible refine Wp.br (fun _ => ?_) (fun _ => ?_) <;> try contradiction)
      | refine Wp.gik rfl (by assumption) (by with_reducible assumption) ?_
      | refine Wp.gi rfl (by assumption) ?_
      | refine Wp.gz rfl (by assumption) ?_
      | refine Wp.gr rfl (by assumption) (by assumption) ?_
      | refine Wp.gn rfl (by assumption) (by assumption) ?_
      | refine Wp.gl rfl (by assumption) ?_
      | refine Wp.addn rfl (by with_reducible rfl) (by with_reducible rfl) ?_
      | refine Wp.muln rfl (by with_reducible rfl) (by with_reducible rfl) ?_
      | refine Wp.subn rfl (by with_reducible rfl) (by with_reducible rfl) (by omega) ?_
      | (refine Wp.decn rfl rfl ?_; dsimp only [List.set])
      | (refine Wp.incn rfl rfl ?_; dsimp only [List.set])
      | (refine Wp.go rfl rfl ?_; try dsimp only [List.set])
      | refine Wp.pi rfl (by assumption) ?_
      | refine Wp.pr rfl (by assumption) ?_
      | refine Wp.pn rfl (by assumption) ?_
      | refine Wp.pl rfl (by assumption) ?_
      | refine Wp.aik rfl (by assumption) rfl (by first | with_reducible rfl | with_reducible assumption) (by omega) (by with_reducible assumption) ?_
      | refine Wp.aiN rfl (by assumption) rfl (by first | with_reducible rfl | with_reducible assumption) (by omega) ?_
      | refine Wp.siN rfl (by assumption) rfl (by first | with_reducible rfl | with_reducible assumption) (by omega) ?_
      | refine Wp.rt rfl rfl rfl rfl ?_
      | refine Wp.rz rfl rfl (by decide) ?_))
      refine Wp.S1i rfl rfl (k_isRep (d + 5) M.2.1 (Z := zO M) x).ev0 ?_
      rw [hf']
      repeat' (first
      | (with_reducible refine Wp.lt (by omega) (by omega) (fun _ => ?_) (fun _ => ?_) <;> try (exfalso; omega))
      | (with_reducible refine Wp.le (by omega) (by omega) (fun _ => ?_) (fun _ => ?_) <;> try (exfalso; omega))
      | (with_reducible refine Wp.eq (by omega) (by omega) (fun _ => ?_) (fun _ => ?_) <;> try (exfalso; omega))
      | (with_reducible refine Wp.ne (by omega) (by omega) (fun _ => ?_) (fun _ => ?_) <;> try (exfalso; omega))
      | with_reducible refine Wp.lt0 (by omega) ?_
      | with_reducible refine Wp.ge0 (by omega) ?_
      | (with_reducible refine Wp.bz (fun _ => ?_) (fun _ => ?_) <;> try contradiction)
      | (with_reducible refine Wp.bn (fun _ => ?_) (fun _ => ?_) <;> try contradiction)
      | (with_reducible refine Wp.br (fun _ => ?_) (fun _ => ?_) <;> try contradiction)
      | refine Wp.gik rfl (by assumption) (by with_reducible assumption) ?_
      | refine Wp.gi rfl (by assumption) ?_
      | refine Wp.gz rfl (by assumption) ?_
      | refine Wp.gr rfl (by assumption) (by assumption) ?_
      | refine Wp.gn rfl (by assumption) (by assumption) ?_
      | refine Wp.gl rfl (by assumption) ?_
      | refine Wp.addn rfl (by with_reducible rfl) (by with_reducible rfl) ?_
      | refine Wp.muln rfl (by with_reducible rfl) (by with_reducible rfl) ?_
      | refine Wp.subn rfl (by with_reducible rfl) (by with_reducible rfl) (by omega) ?_
      | (refine Wp.decn rfl rfl ?_; dsimp only [List.set])
      | (refine Wp.incn rfl rfl ?_; dsimp only [List.set])
      | (refine Wp.go rfl rfl ?_; try dsimp only [List.set])
      | refine Wp.pi rfl (by assumption) ?_
      | refine Wp.pr rfl (by assumption) ?_
      | refine Wp.pn rfl (by assumption) ?_
      | refine Wp.pl rfl (by assumption) ?_
      | refine Wp.aik rfl (by assumption) rfl (by first | with_reducible rfl | with_reducible assumption) (by omega) (by with_reducible assumption) ?_
      | refine Wp.aiN rfl (by assumption) rfl (by first | with_reducible rfl | with_reducible assumption) (by omega) ?_
      | refine Wp.siN rfl (by assumption) rfl (by first | with_reducible rfl | with_reducible assumption) (by omega) ?_
      | refine Wp.rt rfl rfl rfl rfl ?_
      | refine Wp.rz rfl rfl (by decide) ?_)
      exact ⟨rfl, rfl⟩
set_option maxHeartbeats 4000000 in
theorem k_del (d : Nat) {i : Nat} {C2 : xCC} (h : Rp M C) (hi : i < c_w C) (hr : r < 5) (hto : (C.2.2.2.2 i).1 2 = nI r) (hu : C.1 (9 + 13 * r) 3 = 1) (hrc : ∀ M1 a, Rp M1 (c_tk C i) → mgA M1 a (C.2.2.2.2 i) → Ev (d + 7) 38 M1 [.ref (9 + 13 * r), .ref a] (fun M' v => Rp M' C2 ∧ Ext 92 M1 M' ∧ v = none)) : Ev (d + 8) 81 M [.ref 0, .int (nI i)] (fun M' v => Rp M' C2 ∧ Ext 92 M M' ∧ v = some (.int (C2.1 3 1 - nI (c_w C - 1)))) := by
  obtain ⟨m1, m2, m3, m4, m5, m6, m7, m8⟩ := h.hm
  refine Ev.of (ls := [some (.ref 0), some (.int (nI i)), none, none, none]) rfl rfl ?_
  repeat' ((with_reducible fail_if_success show Wp _ _ 5 _ _ _ _); (first
      | (with_reducible refine Wp.lt (by omega) (by omega) (fun _ => ?_) (fun _ => ?_) <;> try (exfalso; omega))
      | (with_reducible refine Wp.le (by omega) (by omega) (fun _ => ?_) (fun _ => ?_) <;> try (exfalso; omega))
      | (with_reducible refine Wp.eq (by omega) (by omega) (fun _ => ?_) (fun _ => ?_) <;> try (exfalso; omega))
      | (with_reducible refine Wp.ne (by omega) (by omega) (fun _ => ?_) (fun _ => ?_) <;> try (exfalso; omega))
      | with_reducible refine Wp.lt0 (by omega) ?_
      | with_reducible refine Wp.ge0 (by omega) ?_
      | (with_reducible refine Wp.bz (fun _ => ?_) (fun _ => ?_) <;> try contradiction)
      | (with_reducible refine Wp.bn (fun _ => ?_) (fun _ => ?_) <;> try contradiction)
      | (with_reducible refine Wp.br (fun _ => ?_) (fun _ => ?_) <;> try contradiction)
      | refine Wp.gik rfl (by assumption) (by with_reducible assumption) ?_
      | refine Wp.gi rfl (by assumption) ?_
      | refine Wp.gz rfl (by assumption) ?_
      | refine Wp.gr rfl (by assumption) (by assumption) ?_
      | refine Wp.gn rfl (by assumption) (by assumption) ?_
      | refine Wp.gl rfl (by assumption) ?_
      | refine Wp.addn rfl (by with_reducible rfl) (by with_reducible rfl) ?_
      | refine Wp.muln rfl (by with_reducible rfl) (by with_reducible rfl) ?_
      | refine Wp.subn rfl (by with_reducible rfl) (by with_reducible rfl) (by omega) ?_
      | (refine Wp.decn rfl rfl ?_; dsimp only [List.set])
      | (refine Wp.incn rfl rfl ?_; dsimp only [List.set])
      | (refine Wp.go rfl rfl ?_; try dsimp only [List.set])
      | refine Wp.pi rfl (by assumption) ?_
      | refine Wp.pr rfl (by assumption) ?_
      | refine Wp.pn rfl (by assumption) ?_
      | refine Wp.pl rfl (by assumption) ?_
      | refine Wp.aik rfl (by assumption) rfl (by first | with_reducible rfl | with_reducible assumption) (by omega) (by with_reducible assumption) ?_
      | refine Wp.aiN rfl (by assumption) rfl (by first | with_reducible rfl | with_reducible assumption) (by omega) ?_
      | refine Wp.siN rfl (by assumption) rfl (by first | with_reducible rfl | with_reducible assumption) (by omega) ?_
      | refine Wp.rt rfl rfl rfl rfl ?_
      | refine Wp.rz rfl rfl (by decide) ?_))
  refine Wp.V1 rfl m8 rfl (k_take (d + 5) h hi) (fun M1 v hq => ?_)
  obtain ⟨a, rfl, a1, a2, a3⟩ := hq
  obtain ⟨m1', m2', m3', m4', m5', m6', m7', m8'⟩ := a2.hm
  have p1 := (a2.f hr).1
  obtain ⟨t1, t2, t3, t4, t5, t6, t7⟩ := a1.f
  have t4' : M1.2.1 a 2 = nI r := t4.trans hto
  have hup : M1.2.1 (9 + 13 * r) 3 = 1 := (a2.1 _ _ (by omega)).trans ((x_u_ne _ _ (by omega)).trans hu)
  show Wp (d + 7) 81 8 _ [.ref a] M1 _
  repeat' ((with_reducible fail_if_success show Wp _ _ 23 _ _ _ _); (first
      | (with_reducible refine Wp.lt (by omega) (by omega) (fun _ => ?_) (fun _ => ?_) <;> try (exfalso; omega))
      | (with_reducible refine Wp.le (by omega) (by omega) (fun _ => ?_) (fun _ => ?_) <;> try (exfalso; omega))
      | (with_reducible refine Wp.eq (by omega) (by omega) (fun _ => ?_) (fun _ => ?_) <;> try (exfalso; omega))
      | (with_reducible refine Wp.ne (by omega) (by omega) (fun _ => ?_) (fun _ => ?_) <;> try (exfalso; omega))
      | with_reducible refine Wp.lt0 (by omega) ?_
      | with_reducible refine Wp.ge0 (by omega) ?_
      | (with_reducible refine Wp.bz (fun _ => ?_) (fun _ => ?_) <;> try contradiction)
      | (with_reducible refine Wp.bn (fun _ => ?_) (fun _ => ?_) <;> try contradiction)
      | (with_reducible refine Wp.br (fun _ => ?_) (fun _ => ?_) <;> try contradiction)
      | refine Wp.gik rfl (by assumption) (by with_reducible assumption) ?_
      | refine Wp.gi rfl (by assumption) ?_
      | refine Wp.gz rfl (by assumption) ?_
      | refine Wp.gr rfl (by assumption) (by assumption) ?_
      | refine Wp.gn rfl (by assumption) (by assumption) ?_
      | refine Wp.gl rfl (by assumption) ?_
      | refine Wp.addn rfl (by with_reducible rfl) (by with_reducible rfl) ?_
      | refine Wp.muln rfl (by with_reducible rfl) (by with_reducible rfl) ?_
      | refine Wp.subn rfl (by with_reducible rfl) (by with_reducible rfl) (by omega) ?_
      | (refine Wp.decn rfl rfl ?_; dsimp only [List.set])
      | (refine Wp.incn rfl rfl ?_; dsimp only [List.set])
      | (refine Wp.go rfl rfl ?_; try dsimp only [List.set])
      | refine Wp.pi rfl (by assumption) ?_
      | refine Wp.pr rfl (by assumption) ?_
      | refine Wp.pn rfl (by assumption) ?_
      | refine Wp.pl rfl (by assumption) ?_
      | refine Wp.aik rfl (by assumption) rfl (by first | with_reducible rfl | with_reducible assumption) (by omega) (by with_reducible assumption) ?_
      | refine Wp.aiN rfl (by assumption) rfl (by first | with_reducible rfl | with_reducible assumption) (by omega) ?_
      | refine Wp.siN rfl (by assumption) rfl (by first | with_reducible rfl | with_reducible assumption) (by omega) ?_
      | refine Wp.rt rfl rfl rfl rfl ?_
      | refine Wp.rz rfl rfl (by decide) ?_))
  refine Wp.aq rfl m5' (by decide) hr (by decide) (m6' r hr) ?_
  repeat' ((with_reducible fail_if_success show Wp _ _ 29 _ _ _ _); (first
      | (with_reducible refine Wp.lt (by omega) (by omega) (fun _ => ?_) (fun _ => ?_) <;> try (exfalso; omega))
      | (with_reducible refine Wp.le (by omega) (by omega) (fun _ => ?_) (fun _ => ?_) <;> try (exfalso; omega))
      | (with_reducible refine Wp.eq (by omega) (by omega) (fun _ => ?_) (fun _ => ?_) <;> try (exfalso; omega))
      | (with_reducible refine Wp.ne (by omega) (by omega) (fun _ => ?_) (fun _ => ?_) <;> try (exfalso; omega))
      | with_reducible refine Wp.lt0 (by omega) ?_
      | with_reducible refine Wp.ge0 (by omega) ?_
      | (with_reducible refine Wp.bz (fun _ => ?_) (fun _ => ?_) <;> try contradiction)
      | (with_reducible refine Wp.bn (fun _ => ?_) (fun _ => ?_) <;> try contradiction)
      | (with_reducible refine Wp.br (fun _ => ?_) (fun _ => ?_) <;> try contradiction)
      | refine Wp.gik rfl (by assumption) (by with_reducible assumption) ?_
      | refine Wp.gi rfl (by assumption) ?_
      | refine Wp.gz rfl (by assumption) ?_
      | refine Wp.gr rfl (by assumption) (by assumption) ?_
      | refine Wp.gn rfl (by assumption) (by assumption) ?_
      | refine Wp.gl rfl (by assumption) ?_
      | refine Wp.addn rfl (by with_reducible rfl) (by with_reducible rfl) ?_
      | refine Wp.muln rfl (by with_reducible rfl) (by with_reducible rfl) ?_
      | refine Wp.subn rfl (by with_reducible rfl) (by with_reducible rfl) (by omega) ?_
      | (refine Wp.decn rfl rfl ?_; dsimp only [List.set])
      | (refine Wp.incn rfl rfl ?_; dsimp only [List.set])
      | (refine Wp.go rfl rfl ?_; try dsimp only [List.set])
      | refine Wp.pi rfl (by assumption) ?_
      | refine Wp.pr rfl (by assumption) ?_
      | refine Wp.pn rfl (by assumption) ?_
      | refine Wp.pl rfl (by assumption) ?_
      | refine Wp.aik rfl (by assumption) rfl (by first | with_reducible rfl | with_reducible assumption) (by omega) (by with_reducible assumption) ?_
      | refine Wp.aiN rfl (by assumption) rfl (by first | with_reducible rfl | with_reducible assumption) (by omega) ?_
      | refine Wp.siN rfl (by assumption) rfl (by first | with_reducible rfl | with_reducible assumption) (by omega) ?_
      | refine Wp.rt rfl rfl rfl rfl ?_
      | refine Wp.rz rfl rfl (by decide) ?_))
  rw [hup]
  iterate 1 (first
      | (with_reducible refine Wp.lt (by omega) (by omega) (fun _ => ?_) (fun _ => ?_) <;> try (exfalso; omega))
      | (with_reducible refine Wp.le (by omega) (by omega) (fun _ => ?_) (fun _ => ?_) <;> try (exfalso; omega))
      | (with_reducible refine Wp.eq (by omega) (by omega) (fun _ => ?_) (fun _ => ?_) <;> try (exfalso; omega))
      | (with_reducible refine Wp.ne (by omega) (by omega) (fun _ => ?_) (fun _ => ?_) <;> try (exfalso; omega))
      | with_reducible refine Wp.lt0 (by omega) ?_
      | with_reducible refine Wp.ge0 (by omega) ?_
      | (with_reducible refine Wp.bz (fun _ => ?_) (fun _ => ?_) <;> try contradiction)
      | (with_reducible refine Wp.bn (fun _ => ?_) (fun _ => ?_) <;> try contradiction)
      | (with_reducible refine Wp.br (fun _ => ?_) (fun _ => ?_) <;> try contradiction)
      | refine Wp.gik rfl (by assumption) (by with_reducible assumption) ?_
      | refine Wp.gi rfl (by assumption) ?_
      | refine Wp.gz rfl (by assumption) ?_
      | refine Wp.gr rfl (by assumption) (by assumption) ?_
      | refine Wp.gn rfl (by assumption) (by assumption) ?_
      | refine Wp.gl rfl (by assumption) ?_
      | refine Wp.addn rfl (by with_reducible rfl) (by with_reducible rfl) ?_
      | refine Wp.muln rfl (by with_reducible rfl) (by with_reducible rfl) ?_
      | refine Wp.subn rfl (by with_reducible rfl) (by with_reducible rfl) (by omega) ?_
      | (refine Wp.decn rfl rfl ?_; dsimp only [List.set])
      | (refine Wp.incn rfl rfl ?_; dsimp only [List.set])
      | (refine Wp.go rfl rfl ?_; try dsimp only [List.set])
      | refine Wp.pi rfl (by assumption) ?_
      | refine Wp.pr rfl (by assumption) ?_
      | refine Wp.pn rfl (by assumption) ?_
      | refine Wp.pl rfl (by assumption) ?_
      | refine Wp.aik rfl (by assumption) rfl (by first | with_reducible rfl | with_reducible assumption) (by omega) (by with_reducible assumption) ?_
      | refine Wp.aiN rfl (by assumption) rfl (by first | with_reducible rfl | with_reducible assumption) (by omega) ?_
      | refine Wp.siN rfl (by assumption) rfl (by first | with_reducible rfl | with_reducible assumption) (by omega) ?_
      | refine Wp.rt rfl rfl rfl rfl ?_
      | refine Wp.rz rfl rfl (by decide) ?_)
  refine Wp.br (fun _ => ?_) (fun hb => absurd (by decide) hb)
  repeat' ((with_reducible fail_if_success show Wp _ _ 39 _ _ _ _); (first
      | (with_reducible refine Wp.lt (by omega) (by omega) (fun _ => ?_) (fun _ => ?_) <;> try (exfalso; omega))
      | (with_reducible refine Wp.le (by omega) (by omega) (fun _ => ?_) (fun _ => ?_) <;> try (exfalso; omega))
      | (with_reducible refine Wp.eq (by omega) (by omega) (fun _ => ?_) (fun _ => ?_) <;> try (exfalso; omega))
      | (with_reducible refine Wp.ne (by omega) (by omega) (fun _ => ?_) (fun _ => ?_) <;> try (exfalso; omega))
      | with_reducible refine Wp.lt0 (by omega) ?_
      | with_reducible refine Wp.ge0 (by omega) ?_
      | (with_reducible refine Wp.bz (fun _ => ?_) (fun _ => ?_) <;> try contradiction)
      | (with_reducible refine Wp.bn (fun _ => ?_) (fun _ => ?_) <;> try contradiction)
      | (with_reducible refine Wp.br (fun _ => ?_) (fun _ => ?_) <;> try contradiction)
      | refine Wp.gik rfl (by assumption) (by with_reducible assumption) ?_
      | refine Wp.gi rfl (by assumption) ?_
      | refine Wp.gz rfl (by assumption) ?_
      | refine Wp.gr rfl (by assumption) (by assumption) ?_
      | refine Wp.gn rfl (by assumption) (by assumption) ?_
      | refine Wp.gl rfl (by assumption) ?_
      | refine Wp.addn rfl (by with_reducible rfl) (by with_reducible rfl) ?_
      | refine Wp.muln rfl (by with_reducible rfl) (by with_reducible rfl) ?_
      | refine Wp.subn rfl (by with_reducible rfl) (by with_reducible rfl) (by omega) ?_
      | (refine Wp.decn rfl rfl ?_; dsimp only [List.set])
      | (refine Wp.incn rfl rfl ?_; dsimp only [List.set])
      | (refine Wp.go rfl rfl ?_; try dsimp only [List.set])
      | refine Wp.pi rfl (by assumption) ?_
      | refine Wp.pr rfl (by assumption) ?_
      | refine Wp.pn rfl (by assumption) ?_
      | refine Wp.pl rfl (by assumption) ?_
      | refine Wp.aik rfl (by assumption) rfl (by first | with_reducible rfl | with_reducible assumption) (by omega) (by with_reducible assumption) ?_
      | refine Wp.aiN rfl (by assumption) rfl (by first | with_reducible rfl | with_reducible assumption) (by omega) ?_
      | refine Wp.siN rfl (by assumption) rfl (by first | with_reducible rfl | with_reducible assumption) (by omega) ?_
      | refine Wp.rt rfl rfl rfl rfl ?_
      | refine Wp.rz rfl rfl (by decide) ?_))
  refine Wp.V0i rfl m8' rfl (w_size (d + 6) a2) ?_
  repeat' ((with_reducible fail_if_success show Wp _ _ 46 _ _ _ _); (first
      | (with_reducible refine Wp.lt (by omega) (by omega) (fun _ => ?_) (fun _ => ?_) <;> try (exfalso; omega))
      | (with_reducible refine Wp.le (by omega) (by omega) (fun _ => ?_) (fun _ => ?_) <;> try (exfalso; omega))
      | (with_reducible refine Wp.eq (by omega) (by omega) (fun _ => ?_) (fun _ => ?_) <;> try (exfalso; omega))
      | (with_reducible refine Wp.ne (by omega) (by omega) (fun _ => ?_) (fun _ => ?_) <;> try (exfalso; omega))
      | with_reducible refine Wp.lt0 (by omega) ?_
      | with_reducible refine Wp.ge0 (by omega) ?_
      | (with_reducible refine Wp.bz (fun _ => ?_) (fun _ => ?_) <;> try contradiction)
      | (with_reducible refine Wp.bn (fun _ => ?_) (fun _ => ?_) <;> try contradiction)
      | (with_reducible refine Wp.br (fun _ => ?_) (fun _ => ?_) <;> try contradiction)
      | refine Wp.gik rfl (by assumption) (by with_reducible assumption) ?_
      | refine Wp.gi rfl (by assumption) ?_
      | refine Wp.gz rfl (by assumption) ?_
      | refine Wp.gr rfl (by assumption) (by assumption) ?_
      | refine Wp.gn rfl (by assumption) (by assumption) ?_
      | refine Wp.gl rfl (by assumption) ?_
      | refine Wp.addn rfl (by with_reducible rfl) (by with_reducible rfl) ?_
      | refine Wp.muln rfl (by with_reducible rfl) (by with_reducible rfl) ?_
      | refine Wp.subn rfl (by with_reducible rfl) (by with_reducible rfl) (by omega) ?_
      | (refine Wp.decn rfl rfl ?_; dsimp only [List.set])
      | (refine Wp.incn rfl rfl ?_; dsimp only [List.set])
      | (refine Wp.go rfl rfl ?_; try dsimp only [List.set])
      | refine Wp.pi rfl (by assumption) ?_
      | refine Wp.pr rfl (by assumption) ?_
      | refine Wp.pn rfl (by assumption) ?_
      | refine Wp.pl rfl (by assumption) ?_
      | refine Wp.aik rfl (by assumption) rfl (by first | with_reducible rfl | with_reducible assumption) (by omega) (by with_reducible assumption) ?_
      | refine Wp.aiN rfl (by assumption) rfl (by first | with_reducible rfl | with_reducible assumption) (by omega) ?_
      | refine Wp.siN rfl (by assumption) rfl (by first | with_reducible rfl | with_reducible assumption) (by omega) ?_
      | refine Wp.rt rfl rfl rfl rfl ?_
      | refine Wp.rz rfl rfl (by decide) ?_))
  refine Wp.V1 rfl p1 rfl (hrc M1 a a2 a1) (fun M' v hq => ?_)
  obtain ⟨k1, k2, rfl⟩ := hq
  show Wp (d + 7) 81 49 _ [] M' _
  obtain ⟨l1, l2, l3, l4, l5, l6, l7, l8⟩ := k1.hm
  repeat' ((with_reducible fail_if_success show Wp _ _ 53 _ _ _ _); (first
      | (with_reducible refine Wp.lt (by omega) (by omega) (fun _ => ?_) (fun _ => ?_) <;> try (exfalso; omega))
      | (with_reducible refine Wp.le (by omega) (by omega) (fun _ => ?_) (fun _ => ?_) <;> try (exfalso; omega))
      | (with_reducible refine Wp.eq (by omega) (by omega) (fun _ => ?_) (fun _ => ?_) <;> try (exfalso; omega))
      | (with_reducible refine Wp.ne (by omega) (by omega) (fun _ => ?_) (fun _ => ?_) <;> try (exfalso; omega))
      | with_reducible refine Wp.lt0 (by omega) ?_
      | with_reducible refine Wp.ge0 (by omega) ?_
      | (with_reducible refine Wp.bz (fun _ => ?_) (fun _ => ?_) <;> try contradiction)
      | (with_reducible refine Wp.bn (fun _ => ?_) (fun _ => ?_) <;> try contradiction)
      | (with_reducible refine Wp.br (fun _ => ?_) (fun _ => ?_) <;> try contradiction)
      | refine Wp.gik rfl (by assumption) (by with_reducible assumption) ?_
      | refine Wp.gi rfl (by assumption) ?_
      | refine Wp.gz rfl (by assumption) ?_
      | refine Wp.gr rfl (by assumption) (by assumption) ?_
      | refine Wp.gn rfl (by assumption) (by assumption) ?_
      | refine Wp.gl rfl (by assumption) ?_
      | refine Wp.addn rfl (by with_reducible rfl) (by with_reducible rfl) ?_
      | refine Wp.muln rfl (by with_reducible rfl) (by with_reducible rfl) ?_
      | refine Wp.subn rfl (by with_reducible rfl) (by with_reducible rfl) (by omega) ?_
      | (refine Wp.decn rfl rfl ?_; dsimp only [List.set])
      | (refine Wp.incn rfl rfl ?_; dsimp only [List.set])
      | (refine Wp.go rfl rfl ?_; try dsimp only [List.set])
      | refine Wp.pi rfl (by assumption) ?_
      | refine Wp.pr rfl (by assumption) ?_
      | refine Wp.pn rfl (by assumption) ?_
      | refine Wp.pl rfl (by assumption) ?_
      | refine Wp.aik rfl (by assumption) rfl (by first | with_reducible rfl | with_reducible assumption) (by omega) (by with_reducible assumption) ?_
      | refine Wp.aiN rfl (by assumption) rfl (by first | with_reducible rfl | with_reducible assumption) (by omega) ?_
      | refine Wp.siN rfl (by assumption) rfl (by first | with_reducible rfl | with_reducible assumption) (by omega) ?_
      | refine Wp.rt rfl rfl rfl rfl ?_
      | refine Wp.rz rfl rfl (by decide) ?_))
  refine Wp.V0i rfl l8 rfl (w_size (d + 6) k1) ?_
  repeat' (first
      | (with_reducible refine Wp.lt (by omega) (by omega) (fun _ => ?_) (fun _ => ?_) <;> try (exfalso; omega))
      | (with_reducible refine Wp.le (by omega) (by omega) (fun _ => ?_) (fun _ => ?_) <;> try (exfalso; omega))
      | (with_reducible refine Wp.eq (by omega) (by omega) (fun _ => ?_) (fun _ => ?_) <;> try (exfalso; omega))
      | (with_reducible refine Wp.ne (by omega) (by omega) (fun _ => ?_) (fun _ => ?_) <;> try (exfalso; omega))
      | with_reducible refine Wp.lt0 (by omega) ?_
      | with_reducible refine Wp.ge0 (by omega) ?_
      | (with_reducible refine Wp.bz (fun _ => ?_) (fun _ => ?_) <;> try contradiction)
      | (with_reducible refine Wp.bn (fun _ => ?_) (fun _ => ?_) <;> try contradiction)
      | (with_reducible refine Wp.br (fun _ => ?_) (fun _ => ?_) <;> try contradiction)
      | refine Wp.gik rfl (by assumption) (by with_reducible assumption) ?_
      | refine Wp.gi rfl (by assumption) ?_
      | refine Wp.gz rfl (by assumption) ?_
      | refine Wp.gr rfl (by assumption) (by assumption) ?_
      | refine Wp.gn rfl (by assumption) (by assumption) ?_
      | refine Wp.gl rfl (by assumption) ?_
      | refine Wp.addn rfl (by with_reducible rfl) (by with_reducible rfl) ?_
      | refine Wp.muln rfl (by with_reducible rfl) (by with_reducible rfl) ?_
      | refine Wp.subn rfl (by with_reducible rfl) (by with_reducible rfl) (by omega) ?_
      | (refine Wp.decn rfl rfl ?_; dsimp only [List.set])
      | (refine Wp.incn rfl rfl ?_; dsimp only [List.set])
      | (refine Wp.go rfl rfl ?_; try dsimp only [List.set])
      | refine Wp.pi rfl (by assumption) ?_
      | refine Wp.pr rfl (by assumption) ?_
      | refine Wp.pn rfl (by assumption) ?_
      | refine Wp.pl rfl (by assumption) ?_
      | refine Wp.aik rfl (by assumption) rfl (by first | with_reducible rfl | with_reducible assumption) (by omega) (by with_reducible assumption) ?_
      | refine Wp.aiN rfl (by assumption) rfl (by first | with_reducible rfl | with_reducible assumption) (by omega) ?_
      | refine Wp.siN rfl (by assumption) rfl (by first | with_reducible rfl | with_reducible assumption) (by omega) ?_
      | refine Wp.rt rfl rfl rfl rfl ?_
      | refine Wp.rz rfl rfl (by decide) ?_)
  exact ⟨k1, (a3.trans k2).up (by decide), rfl⟩
set_option maxHeartbeats 4000000 in
theorem k_del_d (d : Nat) {i : Nat} (h : Rp M C) (hi : i < c_w C) (hr : r < 5) (hto : (C.2.2.2.2 i).1 2 = nI r) (hu : C.1 (9 + 13 * r) 3 = 0) : Ev (d + 8) 81 M [.ref 0, .int (nI i)] (fun M' v => Rp M' (c_tk C i) ∧ Ext 0 M M' ∧ v = some (.int (-2))) := by
  obtain ⟨m1, m2, m3, m4, m5, m6, m7, m8⟩ := h.hm
  refine Ev.of (ls := [some (.ref 0), some (.int (nI i)), none, none, none]) rfl rfl ?_
  repeat' ((with_reducible fail_if_success show Wp _ _ 5 _ _ _ _); (first
      | (with_reducible refine Wp.lt (by omega) (by omega) (fun _ => ?_) (fun _ => ?_) <;> try (exfalso; omega))
      | (with_reducible refine Wp.le (by omega) (by omega) (fun _ => ?_) (fun _ => ?_) <;> try (exfalso; omega))
      | (with_reducible refine Wp.eq (by omega) (by omega) (fun _ => ?_) (fun _ => ?_) <;> try (exfalso; omega))
      | (with_reducible refine Wp.ne (by omega) (by omega) (fun _ => ?_) (fun _ => ?_) <;> try (exfalso; omega))
      | with_reducible refine Wp.lt0 (by omega) ?_
      | with_reducible refine Wp.ge0 (by omega) ?_
      | (with_reducible refine Wp.bz (fun _ => ?_) (fun _ => ?_) <;> try contradiction)
      | (with_reducible refine Wp.bn (fun _ => ?_) (fun _ => ?_) <;> try contradiction)
      | (with_reducible refine Wp.br (fun _ => ?_) (fun _ => ?_) <;> try contradiction)
      | refine Wp.gik rfl (by assumption) (by with_reducible assumption) ?_
      | refine Wp.gi rfl (by assumption) ?_
      | refine Wp.gz rfl (by assumption) ?_
      | refine Wp.gr rfl (by assumption) (by assumption) ?_
      | refine Wp.gn rfl (by assumption) (by assumption) ?_
      | refine Wp.gl rfl (by assumption) ?_
      | refine Wp.addn rfl (by with_reducible rfl) (by with_reducible rfl) ?_
      | refine Wp.muln rfl (by with_reducible rfl) (by with_reducible rfl) ?_
      | refine Wp.subn rfl (by with_reducible rfl) (by with_reducible rfl) (by omega) ?_
      | (refine Wp.decn rfl rfl ?_; dsimp only [List.set])
      | (refine Wp.incn rfl rfl ?_; dsimp only [List.set])
      | (refine Wp.go rfl rfl ?_; try dsimp only [List.set])
      | refine Wp.pi rfl (by assumption) ?_
      | refine Wp.pr rfl (by assumption) ?_
      | refine Wp.pn rfl (by assumption) ?_
      | refine Wp.pl rfl (by assumption) ?_
      | refine Wp.aik rfl (by assumption) rfl (by first | with_reducible rfl | with_reducible assumption) (by omega) (by with_reducible assumption) ?_
      | refine Wp.aiN rfl (by assumption) rfl (by first | with_reducible rfl | with_reducible assumption) (by omega) ?_
      | refine Wp.siN rfl (by assumption) rfl (by first | with_reducible rfl | with_reducible assumption) (by omega) ?_
      | refine Wp.rt rfl rfl rfl rfl ?_
      | refine Wp.rz rfl rfl (by decide) ?_))
  refine Wp.V1 rfl m8 rfl (k_take (d + 5) h hi) (fun M1 v hq => ?_)
  obtain ⟨a, rfl, a1, a2, a3⟩ := hq
  obtain ⟨m1', m2', m3', m4', m5', m6', m7', m8'⟩ := a2.hm
  have p1 := (a2.f hr).1
  obtain ⟨t1, t2, t3, t4, t5, t6, t7⟩ := a1.f
  have t4' : M1.2.1 a 2 = nI r := t4.trans hto
  have hup : M1.2.1 (9 + 13 * r) 3 = 0 := (a2.1 _ _ (by omega)).trans ((x_u_ne _ _ (by omega)).trans hu)
  show Wp (d + 7) 81 8 _ [.ref a] M1 _
  repeat' ((with_reducible fail_if_success show Wp _ _ 23 _ _ _ _); (first
      | (with_reducible refine Wp.lt (by omega) (by omega) (fun _ => ?_) (fun _ => ?_) <;> try (exfalso; omega))
      | (with_reducible refine Wp.le (by omega) (by omega) (fun _ => ?_) (fun _ => ?_) <;> try (exfalso; omega))
      | (with_reducible refine Wp.eq (by omega) (by omega) (fun _ => ?_) (fun _ => ?_) <;> try (exfalso; omega))
      | (with_reducible refine Wp.ne (by omega) (by omega) (fun _ => ?_) (fun _ => ?_) <;> try (exfalso; omega))
      | with_reducible refine Wp.lt0 (by omega) ?_
      | with_reducible refine Wp.ge0 (by omega) ?_
      | (with_reducible refine Wp.bz (fun _ => ?_) (fun _ => ?_) <;> try contradiction)
      | (with_reducible refine Wp.bn (fun _ => ?_) (fun _ => ?_) <;> try contradiction)
      | (with_reducible refine Wp.br (fun _ => ?_) (fun _ => ?_) <;> try contradiction)
      | refine Wp.gik rfl (by assumption) (by with_reducible assumption) ?_
      | refine Wp.gi rfl (by assumption) ?_
      | refine Wp.gz rfl (by assumption) ?_
      | refine Wp.gr rfl (by assumption) (by assumption) ?_
      | refine Wp.gn rfl (by assumption) (by assumption) ?_
      | refine Wp.gl rfl (by assumption) ?_
      | refine Wp.addn rfl (by with_reducible rfl) (by with_reducible rfl) ?_
      | refine Wp.muln rfl (by with_reducible rfl) (by with_reducible rfl) ?_
      | refine Wp.subn rfl (by with_reducible rfl) (by with_reducible rfl) (by omega) ?_
      | (refine Wp.decn rfl rfl ?_; dsimp only [List.set])
      | (refine Wp.incn rfl rfl ?_; dsimp only [List.set])
      | (refine Wp.go rfl rfl ?_; try dsimp only [List.set])
      | refine Wp.pi rfl (by assumption) ?_
      | refine Wp.pr rfl (by assumption) ?_
      | refine Wp.pn rfl (by assumption) ?_
      | refine Wp.pl rfl (by assumption) ?_
      | refine Wp.aik rfl (by assumption) rfl (by first | with_reducible rfl | with_reducible assumption) (by omega) (by with_reducible assumption) ?_
      | refine Wp.aiN rfl (by assumption) rfl (by first | with_reducible rfl | with_reducible assumption) (by omega) ?_
      | refine Wp.siN rfl (by assumption) rfl (by first | with_reducible rfl | with_reducible assumption) (by omega) ?_
      | refine Wp.rt rfl rfl rfl rfl ?_
      | refine Wp.rz rfl rfl (by decide) ?_))
  refine Wp.aq rfl m5' (by decide) hr (by decide) (m6' r hr) ?_
  repeat' ((with_reducible fail_if_success show Wp _ _ 29 _ _ _ _); (first
      | (with_reducible refine Wp.lt (by omega) (by omega) (fun _ => ?_) (fun _ => ?_) <;> try (exfalso; omega))
      | (with_reducible refine Wp.le (by omega) (by omega) (fun _ => ?_) (fun _ => ?_) <;> try (exfalso; omega))
      | (with_reducible refine Wp.eq (by omega) (by omega) (fun _ => ?_) (fun _ => ?_) <;> try (exfalso; omega))
      | (with_reducible refine Wp.ne (by omega) (by omega) (fun _ => ?_) (fun _ => ?_) <;> try (exfalso; omega))
      | with_reducible refine Wp.lt0 (by omega) ?_
      | with_reducible refine Wp.ge0 (by omega) ?_
      | (with_reducible refine Wp.bz (fun _ => ?_) (fun _ => ?_) <;> try contradiction)
      | (with_reducible refine Wp.bn (fun _ => ?_) (fun _ => ?_) <;> try contradiction)
      | (with_reducible refine Wp.br (fun _ => ?_) (fun _ => ?_) <;> try contradiction)
      | refine Wp.gik rfl (by assumption) (by with_reducible assumption) ?_
      | refine Wp.gi rfl (by assumption) ?_
      | refine Wp.gz rfl (by assumption) ?_
      | refine Wp.gr rfl (by assumption) (by assumption) ?_
      | refine Wp.gn rfl (by assumption) (by assumption) ?_
      | refine Wp.gl rfl (by assumption) ?_
      | refine Wp.addn rfl (by with_reducible rfl) (by with_reducible rfl) ?_
      | refine Wp.muln rfl (by with_reducible rfl) (by with_reducible rfl) ?_
      | refine Wp.subn rfl (by with_reducible rfl) (by with_reducible rfl) (by omega) ?_
      | (refine Wp.decn rfl rfl ?_; dsimp only [List.set])
      | (refine Wp.incn rfl rfl ?_; dsimp only [List.set])
      | (refine Wp.go rfl rfl ?_; try dsimp only [List.set])
      | refine Wp.pi rfl (by assumption) ?_
      | refine Wp.pr rfl (by assumption) ?_
      | refine Wp.pn rfl (by assumption) ?_
      | refine Wp.pl rfl (by assumption) ?_
      | refine Wp.aik rfl (by assumption) rfl (by first | with_reducible rfl | with_reducible assumption) (by omega) (by with_reducible assumption) ?_
      | refine Wp.aiN rfl (by assumption) rfl (by first | with_reducible rfl | with_reducible assumption) (by omega) ?_
      | refine Wp.siN rfl (by assumption) rfl (by first | with_reducible rfl | with_reducible assumption) (by omega) ?_
      | refine Wp.rt rfl rfl rfl rfl ?_
      | refine Wp.rz rfl rfl (by decide) ?_))
  rw [hup]
  iterate 1 (first
      | (with_reducible refine Wp.lt (by omega) (by omega) (fun _ => ?_) (fun _ => ?_) <;> try (exfalso; omega))
      | (with_reducible refine Wp.le (by omega) (by omega) (fun _ => ?_) (fun _ => ?_) <;> try (exfalso; omega))
      | (with_reducible refine Wp.eq (by omega) (by omega) (fun _ => ?_) (fun _ => ?_) <;> try (exfalso; omega))
      | (with_reducible refine Wp.ne (by omega) (by omega) (fun _ => ?_) (fun _ => ?_) <;> try (exfalso; omega))
      | with_reducible refine Wp.lt0 (by omega) ?_
      | with_reducible refine Wp.ge0 (by omega) ?_
      | (with_reducible refine Wp.bz (fun _ => ?_) (fun _ => ?_) <;> try contradiction)
      | (with_reducible refine Wp.bn (fun _ => ?_) (fun _ => ?_) <;> try contradiction)
      | (with_reducible refine Wp.br (fun _ => ?_) (fun _ => ?_) <;> try contradiction)
      | refine Wp.gik rfl (by assumption) (by with_reducible assumption) ?_
      | refine Wp.gi rfl (by assumption) ?_
      | refine Wp.gz rfl (by assumption) ?_
      | refine Wp.gr rfl (by assumption) (by assumption) ?_
      | refine Wp.gn rfl (by assumption) (by assumption) ?_
      | refine Wp.gl rfl (by assumption) ?_
      | refine Wp.addn rfl (by with_reducible rfl) (by with_reducible rfl) ?_
      | refine Wp.muln rfl (by with_reducible rfl) (by with_reducible rfl) ?_
      | refine Wp.subn rfl (by with_reducible rfl) (by with_reducible rfl) (by omega) ?_
      | (refine Wp.decn rfl rfl ?_; dsimp only [List.set])
      | (refine Wp.incn rfl rfl ?_; dsimp only [List.set])
      | (refine Wp.go rfl rfl ?_; try dsimp only [List.set])
      | refine Wp.pi rfl (by assumption) ?_
      | refine Wp.pr rfl (by assumption) ?_
      | refine Wp.pn rfl (by assumption) ?_
      | refine Wp.pl rfl (by assumption) ?_
      | refine Wp.aik rfl (by assumption) rfl (by first | with_reducible rfl | with_reducible assumption) (by omega) (by with_reducible assumption) ?_
      | refine Wp.aiN rfl (by assumption) rfl (by first | with_reducible rfl | with_reducible assumption) (by omega) ?_
      | refine Wp.siN rfl (by assumption) rfl (by first | with_reducible rfl | with_reducible assumption) (by omega) ?_
      | refine Wp.rt rfl rfl rfl rfl ?_
      | refine Wp.rz rfl rfl (by decide) ?_)
  refine Wp.br (fun hb => absurd hb (by decide)) (fun _ => ?_)
  repeat' (first
      | (with_reducible refine Wp.lt (by omega) (by omega) (fun _ => ?_) (fun _ => ?_) <;> try (exfalso; omega))
      | (with_reducible refine Wp.le (by omega) (by omega) (fun _ => ?_) (fun _ => ?_) <;> try (exfalso; omega))
      | (with_reducible refine Wp.eq (by omega) (by omega) (fun _ => ?_) (fun _ => ?_) <;> try (exfalso; omega))
      | (with_reducible refine Wp.ne (by omega) (by omega) (fun _ => ?_) (fun _ => ?_) <;> try (exfalso; omega))
      | with_reducible refine Wp.lt0 (by omega) ?_
      | with_reducible refine Wp.ge0 (by omega) ?_
      | (with_reducible refine Wp.bz (fun _ => ?_) (fun _ => ?_) <;> try contradiction)
      | (with_reducible refine Wp.bn (fun _ => ?_) (fun _ => ?_) <;> try contradiction)
      | (with_reducible refine Wp.br (fun _ => ?_) (fun _ => ?_) <;> try contradiction)
      | refine Wp.gik rfl (by assumption) (by with_reducible assumption) ?_
      | refine Wp.gi rfl (by assumption) ?_
      | refine Wp.gz rfl (by assumption) ?_
      | refine Wp.gr rfl (by assumption) (by assumption) ?_
      | refine Wp.gn rfl (by assumption) (by assumption) ?_
      | refine Wp.gl rfl (by assumption) ?_
      | refine Wp.addn rfl (by with_reducible rfl) (by with_reducible rfl) ?_
      | refine Wp.muln rfl (by with_reducible rfl) (by with_reducible rfl) ?_
      | refine Wp.subn rfl (by with_reducible rfl) (by with_reducible rfl) (by omega) ?_
      | (refine Wp.decn rfl rfl ?_; dsimp only [List.set])
      | (refine Wp.incn rfl rfl ?_; dsimp only [List.set])
      | (refine Wp.go rfl rfl ?_; try dsimp only [List.set])
      | refine Wp.pi rfl (by assumption) ?_
      | refine Wp.pr rfl (by assumption) ?_
      | refine Wp.pn rfl (by assumption) ?_
      | refine Wp.pl rfl (by assumption) ?_
      | refine Wp.aik rfl (by assumption) rfl (by first | with_reducible rfl | with_reducible assumption) (by omega) (by with_reducible assumption) ?_
      | refine Wp.aiN rfl (by assumption) rfl (by first | with_reducible rfl | with_reducible assumption) (by omega) ?_
      | refine Wp.siN rfl (by assumption) rfl (by first | with_reducible rfl | with_reducible assumption) (by omega) ?_
      | refine Wp.rt rfl rfl rfl rfl ?_
      | refine Wp.rz rfl rfl (by decide) ?_)
  exact ⟨a2, a3, rfl⟩
set_option maxHeartbeats 4000000 in
theorem k_del_n (d : Nat) {x : Int32} (h : Rp M C) (hx : x < 0 ∨ nI (c_w C) ≤ x) : Ev (d + 8) 81 M [.ref 0, .int x] (fun M' v => M' = M ∧ v = some (.int (-1))) ∧ Ev (d + 8) 82 M [.ref 0, .int x] (fun M' v => M' = M ∧ v = some (.int (nI 0))) ∧ Ev (d + 8) 83 M [.ref 0, .int x] (fun M' v => M' = M ∧ v = some (.int (nI 0))) ∧ ∀ y, Ev (d + 8) 89 M [.ref 0, .int x, .int y] (fun M' v => M' = M ∧ v = some (.int (-1))) := by
  obtain ⟨m1, m2, m3, m4, m5, m6, m7, m8⟩ := h.hm
  refine ⟨?_, ?_, ?_, fun y => ?_⟩
  · refine Ev.of (ls := [some (.ref 0), some (.int x), none, none, none]) rfl rfl ?_
    repeat' ((with_reducible fail_if_success show Wp _ _ 5 _ _ _ _); (first
      | (with_reducible refine Wp.lt (by omega) (by omega) (fun _ => ?_) (fun _ => ?_) <;> try (exfalso; omega))
      | (with_reducible refine Wp.le (by omega) (by omega) (fun _ => ?_) (fun _ => ?_) <;> try (exfalso; omega))
      | (with_reducible refine Wp.eq (by omega) (by omega) (fun _ => ?_) (fun _ => ?_) <;> try (exfalso; omega))
      | (with_reducible refine Wp.ne (by omega) (by omega) (fun _ => ?_) (fun _ => ?_) <;> try (exfalso; omega))
      | with_reducible refine Wp.lt0 (by omega) ?_
      | with_reducible refine Wp.ge0 (by omega) ?_
      | (with_reducible refine Wp.bz (fun _ => ?_) (fun _ => ?_) <;> try contradiction)
      | (with_reducible refine Wp.bn (fun _ => ?_) (fun _ => ?_) <;> try contradiction)
      | (with_reducible refine Wp.br (fun _ => ?_) (fun _ => ?_) <;> try contradiction)
      | refine Wp.gik rfl (by assumption) (by with_reducible assumption) ?_
      | refine Wp.gi rfl (by assumption) ?_
      | refine Wp.gz rfl (by assumption) ?_
      | refine Wp.gr rfl (by assumption) (by assumption) ?_
      | refine Wp.gn rfl (by assumption) (by assumption) ?_
      | refine Wp.gl rfl (by assumption) ?_
      | refine Wp.addn rfl (by with_reducible rfl) (by with_reducible rfl) ?_
      | refine Wp.muln rfl (by with_reducible rfl) (by with_reducible rfl) ?_
      | refine Wp.subn rfl (by with_reducible rfl) (by with_reducible rfl) (by omega) ?_
      | (refine Wp.decn rfl rfl ?_; dsimp only [List.set])
      | (refine Wp.incn rfl rfl ?_; dsimp only [List.set])
      | (refine Wp.go rfl rfl ?_; try dsimp only [List.set])
      | refine Wp.pi rfl (by assumption) ?_
      | refine Wp.pr rfl (by assumption) ?_
      | refine Wp.pn rfl (by assumption) ?_
      | refine Wp.pl rfl (by assumption) ?_
      | refine Wp.aik rfl (by assumption) rfl (by first | with_reducible rfl | with_reducible assumption) (by omega) (by with_reducible assumption) ?_
      | refine Wp.aiN rfl (by assumption) rfl (by first | with_reducible rfl | with_reducible assumption) (by omega) ?_
      | refine Wp.siN rfl (by assumption) rfl (by first | with_reducible rfl | with_reducible assumption) (by omega) ?_
      | refine Wp.rt rfl rfl rfl rfl ?_
      | refine Wp.rz rfl rfl (by decide) ?_))
    refine Wp.V1i rfl m8 rfl (k_take_n (d + 5) h hx) ?_
    repeat' (first
      | (with_reducible refine Wp.lt (by omega) (by omega) (fun _ => ?_) (fun _ => ?_) <;> try (exfalso; omega))
      | (with_reducible refine Wp.le (by omega) (by omega) (fun _ => ?_) (fun _ => ?_) <;> try (exfalso; omega))
      | (with_reducible refine Wp.eq (by omega) (by omega) (fun _ => ?_) (fun _ => ?_) <;> try (exfalso; omega))
      | (with_reducible refine Wp.ne (by omega) (by omega) (fun _ => ?_) (fun _ => ?_) <;> try (exfalso; omega))
      | with_reducible refine Wp.lt0 (by omega) ?_
      | with_reducible refine Wp.ge0 (by omega) ?_
      | (with_reducible refine Wp.bz (fun _ => ?_) (fun _ => ?_) <;> try contradiction)
      | (with_reducible refine Wp.bn (fun _ => ?_) (fun _ => ?_) <;> try contradiction)
      | (with_reducible refine Wp.br (fun _ => ?_) (fun _ => ?_) <;> try contradiction)
      | refine Wp.gik rfl (by assumption) (by with_reducible assumption) ?_
      | refine Wp.gi rfl (by assumption) ?_
      | refine Wp.gz rfl (by assumption) ?_
      | refine Wp.gr rfl (by assumption) (by assumption) ?_
      | refine Wp.gn rfl (by assumption) (by assumption) ?_
      | refine Wp.gl rfl (by assumption) ?_
      | refine Wp.addn rfl (by with_reducible rfl) (by with_reducible rfl) ?_
      | refine Wp.muln rfl (by with_reducible rfl) (by with_reducible rfl) ?_
      | refine Wp.subn rfl (by with_reducible rfl) (by with_reducible rfl) (by omega) ?_
      | (refine Wp.decn rfl rfl ?_; dsimp only [List.set])
      | (refine Wp.incn rfl rfl ?_; dsimp only [List.set])
      | (refine Wp.go rfl rfl ?_; try dsimp only [List.set])
      | refine Wp.pi rfl (by assumption) ?_
      | refine Wp.pr rfl (by assumption) ?_
      | refine Wp.pn rfl (by assumption) ?_
      | refine Wp.pl rfl (by assumption) ?_
      | refine Wp.aik rfl (by assumption) rfl (by first | with_reducible rfl | with_reducible assumption) (by omega) (by with_reducible assumption) ?_
      | refine Wp.aiN rfl (by assumption) rfl (by first | with_reducible rfl | with_reducible assumption) (by omega) ?_
      | refine Wp.siN rfl (by assumption) rfl (by first | with_reducible rfl | with_reducible assumption) (by omega) ?_
      | refine Wp.rt rfl rfl rfl rfl ?_
      | refine Wp.rz rfl rfl (by decide) ?_)
    exact ⟨rfl, rfl⟩
  · refine Ev.of (ls := [some (.ref 0), some (.int x)]) rfl rfl ?_
    repeat' ((with_reducible fail_if_success show Wp _ _ 5 _ _ _ _); (first
      | (with_reducible refine Wp.lt (by omega) (by omega) (fun _ => ?_) (fun _ => ?_) <;> try (exfalso; omega))
      | (with_reducible refine Wp.le (by omega) (by omega) (fun _ => ?_) (fun _ => ?_) <;> try (exfalso; omega))
      | (with_reducible refine Wp.eq (by omega) (by omega) (fun _ => ?_) (fun _ => ?_) <;> try (exfalso; omega))
      | (with_reducible refine Wp.ne (by omega) (by omega) (fun _ => ?_) (fun _ => ?_) <;> try (exfalso; omega))
      | with_reducible refine Wp.lt0 (by omega) ?_
      | with_reducible refine Wp.ge0 (by omega) ?_
      | (with_reducible refine Wp.bz (fun _ => ?_) (fun _ => ?_) <;> try contradiction)
      | (with_reducible refine Wp.bn (fun _ => ?_) (fun _ => ?_) <;> try contradiction)
      | (with_reducible refine Wp.br (fun _ => ?_) (fun _ => ?_) <;> try contradiction)
      | refine Wp.gik rfl (by assumption) (by with_reducible assumption) ?_
      | refine Wp.gi rfl (by assumption) ?_
      | refine Wp.gz rfl (by assumption) ?_
      | refine Wp.gr rfl (by assumption) (by assumption) ?_
      | refine Wp.gn rfl (by assumption) (by assumption) ?_
      | refine Wp.gl rfl (by assumption) ?_
      | refine Wp.addn rfl (by with_reducible rfl) (by with_reducible rfl) ?_
      | refine Wp.muln rfl (by with_reducible rfl) (by with_reducible rfl) ?_
      | refine Wp.subn rfl (by with_reducible rfl) (by with_reducible rfl) (by omega) ?_
      | (refine Wp.decn rfl rfl ?_; dsimp only [List.set])
      | (refine Wp.incn rfl rfl ?_; dsimp only [List.set])
      | (refine Wp.go rfl rfl ?_; try dsimp only [List.set])
      | refine Wp.pi rfl (by assumption) ?_
      | refine Wp.pr rfl (by assumption) ?_
      | refine Wp.pn rfl (by assumption) ?_
      | refine Wp.pl rfl (by assumption) ?_
      | refine Wp.aik rfl (by assumption) rfl (by first | with_reducible rfl | with_reducible assumption) (by omega) (by with_reducible assumption) ?_
      | refine Wp.aiN rfl (by assumption) rfl (by first | with_reducible rfl | with_reducible assumption) (by omega) ?_
      | refine Wp.siN rfl (by assumption) rfl (by first | with_reducible rfl | with_reducible assumption) (by omega) ?_
      | refine Wp.rt rfl rfl rfl rfl ?_
      | refine Wp.rz rfl rfl (by decide) ?_))
    refine Wp.V1i rfl m8 rfl (k_take_n (d + 5) h hx) ?_
    repeat' (first
      | (with_reducible refine Wp.lt (by omega) (by omega) (fun _ => ?_) (fun _ => ?_) <;> try (exfalso; omega))
      | (with_reducible refine Wp.le (by omega) (by omega) (fun _ => ?_) (fun _ => ?_) <;> try (exfalso; omega))
      | (with_reducible refine Wp.eq (by omega) (by omega) (fun _ => ?_) (fun _ => ?_) <;> try (exfalso; omega))
      | (with_reducible refine Wp.ne (by omega) (by omega) (fun _ => ?_) (fun _ => ?_) <;> try (exfalso; omega))
      | with_reducible refine Wp.lt0 (by omega) ?_
      | with_reducible refine Wp.ge0 (by omega) ?_
      | (with_reducible refine Wp.bz (fun _ => ?_) (fun _ => ?_) <;> try contradiction)
      | (with_reducible refine Wp.bn (fun _ => ?_) (fun _ => ?_) <;> try contradiction)
      | (with_reducible refine Wp.br (fun _ => ?_) (fun _ => ?_) <;> try contradiction)
      | refine Wp.gik rfl (by assumption) (by with_reducible assumption) ?_
      | refine Wp.gi rfl (by assumption) ?_
      | refine Wp.gz rfl (by assumption) ?_
      | refine Wp.gr rfl (by assumption) (by assumption) ?_
      | refine Wp.gn rfl (by assumption) (by assumption) ?_
      | refine Wp.gl rfl (by assumption) ?_
      | refine Wp.addn rfl (by with_reducible rfl) (by with_reducible rfl) ?_
      | refine Wp.muln rfl (by with_reducible rfl) (by with_reducible rfl) ?_
      | refine Wp.subn rfl (by with_reducible rfl) (by with_reducible rfl) (by omega) ?_
      | (refine Wp.decn rfl rfl ?_; dsimp only [List.set])
      | (refine Wp.incn rfl rfl ?_; dsimp only [List.set])
      | (refine Wp.go rfl rfl ?_; try dsimp only [List.set])
      | refine Wp.pi rfl (by assumption) ?_
      | refine Wp.pr rfl (by assumption) ?_
      | refine Wp.pn rfl (by assumption) ?_
      | refine Wp.pl rfl (by assumption) ?_
      | refine Wp.aik rfl (by assumption) rfl (by first | with_reducible rfl | with_reducible assumption) (by omega) (by with_reducible assumption) ?_
      | refine Wp.aiN rfl (by assumption) rfl (by first | with_reducible rfl | with_reducible assumption) (by omega) ?_
      | refine Wp.siN rfl (by assumption) rfl (by first | with_reducible rfl | with_reducible assumption) (by omega) ?_
      | refine Wp.rt rfl rfl rfl rfl ?_
      | refine Wp.rz rfl rfl (by decide) ?_)
    exact ⟨rfl, rfl⟩
  · refine Ev.of (ls := [some (.ref 0), some (.int x), none]) rfl rfl ?_
    repeat' ((with_reducible fail_if_success show Wp _ _ 5 _ _ _ _); (first
      | (with_reducible refine Wp.lt (by omega) (by omega) (fun _ => ?_) (fun _ => ?_) <;> try (exfalso; omega))
      | (with_reducible refine Wp.le (by omega) (by omega) (fun _ => ?_) (fun _ => ?_) <;> try (exfalso; omega))
      | (with_reducible refine Wp.eq (by omega) (by omega) (fun _ => ?_) (fun _ => ?_) <;> try (exfalso; omega))
      | (with_reducible refine Wp.ne (by omega) (by omega) (fun _ => ?_) (fun _ => ?_) <;> try (exfalso; omega))
      | with_reducible refine Wp.lt0 (by omega) ?_
      | with_reducible refine Wp.ge0 (by omega) ?_
      | (with_reducible refine Wp.bz (fun _ => ?_) (fun _ => ?_) <;> try contradiction)
      | (with_reducible refine Wp.bn (fun _ => ?_) (fun _ => ?_) <;> try contradiction)
      | (with_reducible refine Wp.br (fun _ => ?_) (fun _ => ?_) <;> try contradiction)
      | refine Wp.gik rfl (by assumption) (by with_reducible assumption) ?_
      | refine Wp.gi rfl (by assumption) ?_
      | refine Wp.gz rfl (by assumption) ?_
      | refine Wp.gr rfl (by assumption) (by assumption) ?_
      | refine Wp.gn rfl (by assumption) (by assumption) ?_
      | refine Wp.gl rfl (by assumption) ?_
      | refine Wp.addn rfl (by with_reducible rfl) (by with_reducible rfl) ?_
      | refine Wp.muln rfl (by with_reducible rfl) (by with_reducible rfl) ?_
      | refine Wp.subn rfl (by with_reducible rfl) (by with_reducible rfl) (by omega) ?_
      | (refine Wp.decn rfl rfl ?_; dsimp only [List.set])
      | (refine Wp.incn rfl rfl ?_; dsimp only [List.set])
      | (refine Wp.go rfl rfl ?_; try dsimp only [List.set])
      | refine Wp.pi rfl (by assumption) ?_
      | refine Wp.pr rfl (by assumption) ?_
      | refine Wp.pn rfl (by assumption) ?_
      | refine Wp.pl rfl (by assumption) ?_
      | refine Wp.aik rfl (by assumption) rfl (by first | with_reducible rfl | with_reducible assumption) (by omega) (by with_reducible assumption) ?_
      | refine Wp.aiN rfl (by assumption) rfl (by first | with_reducible rfl | with_reducible assumption) (by omega) ?_
      | refine Wp.siN rfl (by assumption) rfl (by first | with_reducible rfl | with_reducible assumption) (by omega) ?_
      | refine Wp.rt rfl rfl rfl rfl ?_
      | refine Wp.rz rfl rfl (by decide) ?_))
    refine Wp.V1i rfl m8 rfl (k_at_n (d + 6) M.2.1 (Z := zO M) h.2.2.1.2.1 h.nt hx).ev0 ?_
    repeat' (first
      | (with_reducible refine Wp.lt (by omega) (by omega) (fun _ => ?_) (fun _ => ?_) <;> try (exfalso; omega))
      | (with_reducible refine Wp.le (by omega) (by omega) (fun _ => ?_) (fun _ => ?_) <;> try (exfalso; omega))
      | (with_reducible refine Wp.eq (by omega) (by omega) (fun _ => ?_) (fun _ => ?_) <;> try (exfalso; omega))
      | (with_reducible refine Wp.ne (by omega) (by omega) (fun _ => ?_) (fun _ => ?_) <;> try (exfalso; omega))
      | with_reducible refine Wp.lt0 (by omega) ?_
      | with_reducible refine Wp.ge0 (by omega) ?_
      | (with_reducible refine Wp.bz (fun _ => ?_) (fun _ => ?_) <;> try contradiction)
      | (with_reducible refine Wp.bn (fun _ => ?_) (fun _ => ?_) <;> try contradiction)
      | (with_reducible refine Wp.br (fun _ => ?_) (fun _ => ?_) <;> try contradiction)
      | refine Wp.gik rfl (by assumption) (by with_reducible assumption) ?_
      | refine Wp.gi rfl (by assumption) ?_
      | refine Wp.gz rfl (by assumption) ?_
      | refine Wp.gr rfl (by assumption) (by assumption) ?_
      | refine Wp.gn rfl (by assumption) (by assumption) ?_
      | refine Wp.gl rfl (by assumption) ?_
      | refine Wp.addn rfl (by with_reducible rfl) (by with_reducible rfl) ?_
      | refine Wp.muln rfl (by with_reducible rfl) (by with_reducible rfl) ?_
      | refine Wp.subn rfl (by with_reducible rfl) (by with_reducible rfl) (by omega) ?_
      | (refine Wp.decn rfl rfl ?_; dsimp only [List.set])
      | (refine Wp.incn rfl rfl ?_; dsimp only [List.set])
      | (refine Wp.go rfl rfl ?_; try dsimp only [List.set])
      | refine Wp.pi rfl (by assumption) ?_
      | refine Wp.pr rfl (by assumption) ?_
      | refine Wp.pn rfl (by assumption) ?_
      | refine Wp.pl rfl (by assumption) ?_
      | refine Wp.aik rfl (by assumption) rfl (by first | with_reducible rfl | with_reducible assumption) (by omega) (by with_reducible assumption) ?_
      | refine Wp.aiN rfl (by assumption) rfl (by first | with_reducible rfl | with_reducible assumption) (by omega) ?_
      | refine Wp.siN rfl (by assumption) rfl (by first | with_reducible rfl | with_reducible assumption) (by omega) ?_
      | refine Wp.rt rfl rfl rfl rfl ?_
      | refine Wp.rz rfl rfl (by decide) ?_)
    exact ⟨rfl, rfl⟩
  · refine Ev.of (ls := [some (.ref 0), some (.int x), some (.int y), none]) rfl rfl ?_
    repeat' ((with_reducible fail_if_success show Wp _ _ 5 _ _ _ _); (first
      | (with_reducible refine Wp.lt (by omega) (by omega) (fun _ => ?_) (fun _ => ?_) <;> try (exfalso; omega))
      | (with_reducible refine Wp.le (by omega) (by omega) (fun _ => ?_) (fun _ => ?_) <;> try (exfalso; omega))
      | (with_reducible refine Wp.eq (by omega) (by omega) (fun _ => ?_) (fun _ => ?_) <;> try (exfalso; omega))
      | (with_reducible refine Wp.ne (by omega) (by omega) (fun _ => ?_) (fun _ => ?_) <;> try (exfalso; omega))
      | with_reducible refine Wp.lt0 (by omega) ?_
      | with_reducible refine Wp.ge0 (by omega) ?_
      | (with_reducible refine Wp.bz (fun _ => ?_) (fun _ => ?_) <;> try contradiction)
      | (with_reducible refine Wp.bn (fun _ => ?_) (fun _ => ?_) <;> try contradiction)
      | (with_reducible refine Wp.br (fun _ => ?_) (fun _ => ?_) <;> try contradiction)
      | refine Wp.gik rfl (by assumption) (by with_reducible assumption) ?_
      | refine Wp.gi rfl (by assumption) ?_
      | refine Wp.gz rfl (by assumption) ?_
      | refine Wp.gr rfl (by assumption) (by assumption) ?_
      | refine Wp.gn rfl (by assumption) (by assumption) ?_
      | refine Wp.gl rfl (by assumption) ?_
      | refine Wp.addn rfl (by with_reducible rfl) (by with_reducible rfl) ?_
      | refine Wp.muln rfl (by with_reducible rfl) (by with_reducible rfl) ?_
      | refine Wp.subn rfl (by with_reducible rfl) (by with_reducible rfl) (by omega) ?_
      | (refine Wp.decn rfl rfl ?_; dsimp only [List.set])
      | (refine Wp.incn rfl rfl ?_; dsimp only [List.set])
      | (refine Wp.go rfl rfl ?_; try dsimp only [List.set])
      | refine Wp.pi rfl (by assumption) ?_
      | refine Wp.pr rfl (by assumption) ?_
      | refine Wp.pn rfl (by assumption) ?_
      | refine Wp.pl rfl (by assumption) ?_
      | refine Wp.aik rfl (by assumption) rfl (by first | with_reducible rfl | with_reducible assumption) (by omega) (by with_reducible assumption) ?_
      | refine Wp.aiN rfl (by assumption) rfl (by first | with_reducible rfl | with_reducible assumption) (by omega) ?_
      | refine Wp.siN rfl (by assumption) rfl (by first | with_reducible rfl | with_reducible assumption) (by omega) ?_
      | refine Wp.rt rfl rfl rfl rfl ?_
      | refine Wp.rz rfl rfl (by decide) ?_))
    refine Wp.V1i rfl m8 rfl (k_at_n (d + 6) M.2.1 (Z := zO M) h.2.2.1.2.1 h.nt hx).ev0 ?_
    repeat' (first
      | (with_reducible refine Wp.lt (by omega) (by omega) (fun _ => ?_) (fun _ => ?_) <;> try (exfalso; omega))
      | (with_reducible refine Wp.le (by omega) (by omega) (fun _ => ?_) (fun _ => ?_) <;> try (exfalso; omega))
      | (with_reducible refine Wp.eq (by omega) (by omega) (fun _ => ?_) (fun _ => ?_) <;> try (exfalso; omega))
      | (with_reducible refine Wp.ne (by omega) (by omega) (fun _ => ?_) (fun _ => ?_) <;> try (exfalso; omega))
      | with_reducible refine Wp.lt0 (by omega) ?_
      | with_reducible refine Wp.ge0 (by omega) ?_
      | (with_reducible refine Wp.bz (fun _ => ?_) (fun _ => ?_) <;> try contradiction)
      | (with_reducible refine Wp.bn (fun _ => ?_) (fun _ => ?_) <;> try contradiction)
      | (with_reducible refine Wp.br (fun _ => ?_) (fun _ => ?_) <;> try contradiction)
      | refine Wp.gik rfl (by assumption) (by with_reducible assumption) ?_
      | refine Wp.gi rfl (by assumption) ?_
      | refine Wp.gz rfl (by assumption) ?_
      | refine Wp.gr rfl (by assumption) (by assumption) ?_
      | refine Wp.gn rfl (by assumption) (by assumption) ?_
      | refine Wp.gl rfl (by assumption) ?_
      | refine Wp.addn rfl (by with_reducible rfl) (by with_reducible rfl) ?_
      | refine Wp.muln rfl (by with_reducible rfl) (by with_reducible rfl) ?_
      | refine Wp.subn rfl (by with_reducible rfl) (by with_reducible rfl) (by omega) ?_
      | (refine Wp.decn rfl rfl ?_; dsimp only [List.set])
      | (refine Wp.incn rfl rfl ?_; dsimp only [List.set])
      | (refine Wp.go rfl rfl ?_; try dsimp only [List.set])
      | refine Wp.pi rfl (by assumption) ?_
      | refine Wp.pr rfl (by assumption) ?_
      | refine Wp.pn rfl (by assumption) ?_
      | refine Wp.pl rfl (by assumption) ?_
      | refine Wp.aik rfl (by assumption) rfl (by first | with_reducible rfl | with_reducible assumption) (by omega) (by with_reducible assumption) ?_
      | refine Wp.aiN rfl (by assumption) rfl (by first | with_reducible rfl | with_reducible assumption) (by omega) ?_
      | refine Wp.siN rfl (by assumption) rfl (by first | with_reducible rfl | with_reducible assumption) (by omega) ?_
      | refine Wp.rt rfl rfl rfl rfl ?_
      | refine Wp.rz rfl rfl (by decide) ?_)
    exact ⟨rfl, rfl⟩
set_option maxHeartbeats 4000000 in
theorem k_drp (d : Nat) {i : Nat} (h : Rp M C) (hi : i < c_w C) : Ev (d + 8) 82 M [.ref 0, .int (nI i)] (fun M' v => Rp M' (c_tk C i) ∧ Ext 0 M M' ∧ v = some (.int (nI 1))) := by
  obtain ⟨m1, m2, m3, m4, m5, m6, m7, m8⟩ := h.hm
  refine Ev.of (ls := [some (.ref 0), some (.int (nI i))]) rfl rfl ?_
  repeat' ((with_reducible fail_if_success show Wp _ _ 5 _ _ _ _); (first
      | (with_reducible refine Wp.lt (by omega) (by omega) (fun _ => ?_) (fun _ => ?_) <;> try (exfalso; omega))
      | (with_reducible refine Wp.le (by omega) (by omega) (fun _ => ?_) (fun _ => ?_) <;> try (exfalso; omega))
      | (with_reducible refine Wp.eq (by omega) (by omega) (fun _ => ?_) (fun _ => ?_) <;> try (exfalso; omega))
      | (with_reducible refine Wp.ne (by omega) (by omega) (fun _ => ?_) (fun _ => ?_) <;> try (exfalso; omega))
      | with_reducible refine Wp.lt0 (by omega) ?_
      | with_reducible refine Wp.ge0 (by omega) ?_
      | (with_reducible refine Wp.bz (fun _ => ?_) (fun _ => ?_) <;> try contradiction)
      | (with_reducible refine Wp.bn (fun _ => ?_) (fun _ => ?_) <;> try contradiction)
      | (with_reducible refine Wp.br (fun _ => ?_) (fun _ => ?_) <;> try contradiction)
      | refine Wp.gik rfl (by assumption) (by with_reducible assumption) ?_
      | refine Wp.gi rfl (by assumption) ?_
      | refine Wp.gz rfl (by assumption) ?_
      | refine Wp.gr rfl (by assumption) (by assumption) ?_
      | refine Wp.gn rfl (by assumption) (by assumption) ?_
      | refine Wp.gl rfl (by assumption) ?_
      | refine Wp.addn rfl (by with_reducible rfl) (by with_reducible rfl) ?_
      | refine Wp.muln rfl (by with_reducible rfl) (by with_reducible rfl) ?_
      | refine Wp.subn rfl (by with_reducible rfl) (by with_reducible rfl) (by omega) ?_
      | (refine Wp.decn rfl rfl ?_; dsimp only [List.set])
      | (refine Wp.incn rfl rfl ?_; dsimp only [List.set])
      | (refine Wp.go rfl rfl ?_; try dsimp only [List.set])
      | refine Wp.pi rfl (by assumption) ?_
      | refine Wp.pr rfl (by assumption) ?_
      | refine Wp.pn rfl (by assumption) ?_
      | refine Wp.pl rfl (by assumption) ?_
      | refine Wp.aik rfl (by assumption) rfl (by first | with_reducible rfl | with_reducible assumption) (by omega) (by with_reducible assumption) ?_
      | refine Wp.aiN rfl (by assumption) rfl (by first | with_reducible rfl | with_reducible assumption) (by omega) ?_
      | refine Wp.siN rfl (by assumption) rfl (by first | with_reducible rfl | with_reducible assumption) (by omega) ?_
      | refine Wp.rt rfl rfl rfl rfl ?_
      | refine Wp.rz rfl rfl (by decide) ?_))
  refine Wp.V1 rfl m8 rfl (k_take (d + 5) h hi) (fun M1 v hq => ?_)
  obtain ⟨a, rfl, a1, a2, a3⟩ := hq
  show Wp (d + 7) 82 8 _ [.ref a] M1 _
  repeat' (first
      | (with_reducible refine Wp.lt (by omega) (by omega) (fun _ => ?_) (fun _ => ?_) <;> try (exfalso; omega))
      | (with_reducible refine Wp.le (by omega) (by omega) (fun _ => ?_) (fun _ => ?_) <;> try (exfalso; omega))
      | (with_reducible refine Wp.eq (by omega) (by omega) (fun _ => ?_) (fun _ => ?_) <;> try (exfalso; omega))
      | (with_reducible refine Wp.ne (by omega) (by omega) (fun _ => ?_) (fun _ => ?_) <;> try (exfalso; omega))
      | with_reducible refine Wp.lt0 (by omega) ?_
      | with_reducible refine Wp.ge0 (by omega) ?_
      | (with_reducible refine Wp.bz (fun _ => ?_) (fun _ => ?_) <;> try contradiction)
      | (with_reducible refine Wp.bn (fun _ => ?_) (fun _ => ?_) <;> try contradiction)
      | (with_reducible refine Wp.br (fun _ => ?_) (fun _ => ?_) <;> try contradiction)
      | refine Wp.gik rfl (by assumption) (by with_reducible assumption) ?_
      | refine Wp.gi rfl (by assumption) ?_
      | refine Wp.gz rfl (by assumption) ?_
      | refine Wp.gr rfl (by assumption) (by assumption) ?_
      | refine Wp.gn rfl (by assumption) (by assumption) ?_
      | refine Wp.gl rfl (by assumption) ?_
      | refine Wp.addn rfl (by with_reducible rfl) (by with_reducible rfl) ?_
      | refine Wp.muln rfl (by with_reducible rfl) (by with_reducible rfl) ?_
      | refine Wp.subn rfl (by with_reducible rfl) (by with_reducible rfl) (by omega) ?_
      | (refine Wp.decn rfl rfl ?_; dsimp only [List.set])
      | (refine Wp.incn rfl rfl ?_; dsimp only [List.set])
      | (refine Wp.go rfl rfl ?_; try dsimp only [List.set])
      | refine Wp.pi rfl (by assumption) ?_
      | refine Wp.pr rfl (by assumption) ?_
      | refine Wp.pn rfl (by assumption) ?_
      | refine Wp.pl rfl (by assumption) ?_
      | refine Wp.aik rfl (by assumption) rfl (by first | with_reducible rfl | with_reducible assumption) (by omega) (by with_reducible assumption) ?_
      | refine Wp.aiN rfl (by assumption) rfl (by first | with_reducible rfl | with_reducible assumption) (by omega) ?_
      | refine Wp.siN rfl (by assumption) rfl (by first | with_reducible rfl | with_reducible assumption) (by omega) ?_
      | refine Wp.rt rfl rfl rfl rfl ?_
      | refine Wp.rz rfl rfl (by decide) ?_)
  exact ⟨a2, a3, rfl⟩
set_option maxHeartbeats 4000000 in
theorem k_cpy (d : Nat) {i : Nat} (h : Rp M C) (hi : i < c_w C) : Ev (d + 8) 83 M [.ref 0, .int (nI i)] (fun M' v => Rp M' (c_put C (C.2.2.2.2 i)) ∧ Ext 0 M M' ∧ v = some (.int (bI (decide (c_w C < 32))))) := by
  obtain ⟨m1, m2, m3, m4, m5, m6, m7, m8⟩ := h.hm
  obtain ⟨w1, w2, w3⟩ := h.w
  obtain ⟨a, a1, a2⟩ := w3 i hi
  refine Ev.of (ls := [some (.ref 0), some (.int (nI i)), none]) rfl rfl ?_
  repeat' ((with_reducible fail_if_success show Wp _ _ 5 _ _ _ _); (first
      | (with_reducible refine Wp.lt (by omega) (by omega) (fun _ => ?_) (fun _ => ?_) <;> try (exfalso; omega))
      | (with_reducible refine Wp.le (by omega) (by omega) (fun _ => ?_) (fun _ => ?_) <;> try (exfalso; omega))
      | (with_reducible refine Wp.eq (by omega) (by omega) (fun _ => ?_) (fun _ => ?_) <;> try (exfalso; omega))
      | (with_reducible refine Wp.ne (by omega) (by omega) (fun _ => ?_) (fun _ => ?_) <;> try (exfalso; omega))
      | with_reducible refine Wp.lt0 (by omega) ?_
      | with_reducible refine Wp.ge0 (by omega) ?_
      | (with_reducible refine Wp.bz (fun _ => ?_) (fun _ => ?_) <;> try contradiction)
      | (with_reducible refine Wp.bn (fun _ => ?_) (fun _ => ?_) <;> try contradiction)
      | (with_reducible refine Wp.br (fun _ => ?_) (fun _ => ?_) <;> try contradiction)
      | refine Wp.gik rfl (by assumption) (by with_reducible assumption) ?_
      | refine Wp.gi rfl (by assumption) ?_
      | refine Wp.gz rfl (by assumption) ?_
      | refine Wp.gr rfl (by assumption) (by assumption) ?_
      | refine Wp.gn rfl (by assumption) (by assumption) ?_
      | refine Wp.gl rfl (by assumption) ?_
      | refine Wp.addn rfl (by with_reducible rfl) (by with_reducible rfl) ?_
      | refine Wp.muln rfl (by with_reducible rfl) (by with_reducible rfl) ?_
      | refine Wp.subn rfl (by with_reducible rfl) (by with_reducible rfl) (by omega) ?_
      | (refine Wp.decn rfl rfl ?_; dsimp only [List.set])
      | (refine Wp.incn rfl rfl ?_; dsimp only [List.set])
      | (refine Wp.go rfl rfl ?_; try dsimp only [List.set])
      | refine Wp.pi rfl (by assumption) ?_
      | refine Wp.pr rfl (by assumption) ?_
      | refine Wp.pn rfl (by assumption) ?_
      | refine Wp.pl rfl (by assumption) ?_
      | refine Wp.aik rfl (by assumption) rfl (by first | with_reducible rfl | with_reducible assumption) (by omega) (by with_reducible assumption) ?_
      | refine Wp.aiN rfl (by assumption) rfl (by first | with_reducible rfl | with_reducible assumption) (by omega) ?_
      | refine Wp.siN rfl (by assumption) rfl (by first | with_reducible rfl | with_reducible assumption) (by omega) ?_
      | refine Wp.rt rfl rfl rfl rfl ?_
      | refine Wp.rz rfl rfl (by decide) ?_))
  refine Wp.V1i rfl m8 rfl (k_at (d + 6) M.2.1 (Z := zO M) h.2.2.1.2.1 h.nt w2 hi a1).ev0 ?_
  repeat' ((with_reducible fail_if_success show Wp _ _ 18 _ _ _ _); (first
      | (with_reducible refine Wp.lt (by omega) (by omega) (fun _ => ?_) (fun _ => ?_) <;> try (exfalso; omega))
      | (with_reducible refine Wp.le (by omega) (by omega) (fun _ => ?_) (fun _ => ?_) <;> try (exfalso; omega))
      | (with_reducible refine Wp.eq (by omega) (by omega) (fun _ => ?_) (fun _ => ?_) <;> try (exfalso; omega))
      | (with_reducible refine Wp.ne (by omega) (by omega) (fun _ => ?_) (fun _ => ?_) <;> try (exfalso; omega))
      | with_reducible refine Wp.lt0 (by omega) ?_
      | with_reducible refine Wp.ge0 (by omega) ?_
      | (with_reducible refine Wp.bz (fun _ => ?_) (fun _ => ?_) <;> try contradiction)
      | (with_reducible refine Wp.bn (fun _ => ?_) (fun _ => ?_) <;> try contradiction)
      | (with_reducible refine Wp.br (fun _ => ?_) (fun _ => ?_) <;> try contradiction)
      | refine Wp.gik rfl (by assumption) (by with_reducible assumption) ?_
      | refine Wp.gi rfl (by assumption) ?_
      | refine Wp.gz rfl (by assumption) ?_
      | refine Wp.gr rfl (by assumption) (by assumption) ?_
      | refine Wp.gn rfl (by assumption) (by assumption) ?_
      | refine Wp.gl rfl (by assumption) ?_
      | refine Wp.addn rfl (by with_reducible rfl) (by with_reducible rfl) ?_
      | refine Wp.muln rfl (by with_reducible rfl) (by with_reducible rfl) ?_
      | refine Wp.subn rfl (by with_reducible rfl) (by with_reducible rfl) (by omega) ?_
      | (refine Wp.decn rfl rfl ?_; dsimp only [List.set])
      | (refine Wp.incn rfl rfl ?_; dsimp only [List.set])
      | (refine Wp.go rfl rfl ?_; try dsimp only [List.set])
      | refine Wp.pi rfl (by assumption) ?_
      | refine Wp.pr rfl (by assumption) ?_
      | refine Wp.pn rfl (by assumption) ?_
      | refine Wp.pl rfl (by assumption) ?_
      | refine Wp.aik rfl (by assumption) rfl (by first | with_reducible rfl | with_reducible assumption) (by omega) (by with_reducible assumption) ?_
      | refine Wp.aiN rfl (by assumption) rfl (by first | with_reducible rfl | with_reducible assumption) (by omega) ?_
      | refine Wp.siN rfl (by assumption) rfl (by first | with_reducible rfl | with_reducible assumption) (by omega) ?_
      | refine Wp.rt rfl rfl rfl rfl ?_
      | refine Wp.rz rfl rfl (by decide) ?_))
  refine Wp.V1 rfl m8 rfl (k_put (d + 6) h a2) (fun M' v hq => ?_)
  obtain ⟨k1, k2, rfl⟩ := hq
  show Wp (d + 7) 83 21 _ [.int _] M' _
  repeat' (first
      | (with_reducible refine Wp.lt (by omega) (by omega) (fun _ => ?_) (fun _ => ?_) <;> try (exfalso; omega))
      | (with_reducible refine Wp.le (by omega) (by omega) (fun _ => ?_) (fun _ => ?_) <;> try (exfalso; omega))
      | (with_reducible refine Wp.eq (by omega) (by omega) (fun _ => ?_) (fun _ => ?_) <;> try (exfalso; omega))
      | (with_reducible refine Wp.ne (by omega) (by omega) (fun _ => ?_) (fun _ => ?_) <;> try (exfalso; omega))
      | with_reducible refine Wp.lt0 (by omega) ?_
      | with_reducible refine Wp.ge0 (by omega) ?_
      | (with_reducible refine Wp.bz (fun _ => ?_) (fun _ => ?_) <;> try contradiction)
      | (with_reducible refine Wp.bn (fun _ => ?_) (fun _ => ?_) <;> try contradiction)
      | (with_reducible refine Wp.br (fun _ => ?_) (fun _ => ?_) <;> try contradiction)
      | refine Wp.gik rfl (by assumption) (by with_reducible assumption) ?_
      | refine Wp.gi rfl (by assumption) ?_
      | refine Wp.gz rfl (by assumption) ?_
      | refine Wp.gr rfl (by assumption) (by assumption) ?_
      | refine Wp.gn rfl (by assumption) (by assumption) ?_
      | refine Wp.gl rfl (by assumption) ?_
      | refine Wp.addn rfl (by with_reducible rfl) (by with_reducible rfl) ?_
      | refine Wp.muln rfl (by with_reducible rfl) (by with_reducible rfl) ?_
      | refine Wp.subn rfl (by with_reducible rfl) (by with_reducible rfl) (by omega) ?_
      | (refine Wp.decn rfl rfl ?_; dsimp only [List.set])
      | (refine Wp.incn rfl rfl ?_; dsimp only [List.set])
      | (refine Wp.go rfl rfl ?_; try dsimp only [List.set])
      | refine Wp.pi rfl (by assumption) ?_
      | refine Wp.pr rfl (by assumption) ?_
      | refine Wp.pn rfl (by assumption) ?_
      | refine Wp.pl rfl (by assumption) ?_
      | refine Wp.aik rfl (by assumption) rfl (by first | with_reducible rfl | with_reducible assumption) (by omega) (by with_reducible assumption) ?_
      | refine Wp.aiN rfl (by assumption) rfl (by first | with_reducible rfl | with_reducible assumption) (by omega) ?_
      | refine Wp.siN rfl (by assumption) rfl (by first | with_reducible rfl | with_reducible assumption) (by omega) ?_
      | refine Wp.rt rfl rfl rfl rfl ?_
      | refine Wp.rz rfl rfl (by decide) ?_)
  · rename_i hb
    rw [hb]
    exact ⟨k1, k2, rfl⟩
  · rename_i hb
    rw [hb]
    exact ⟨k1, k2, rfl⟩
end FACB
