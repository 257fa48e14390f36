set_option maxHeartbeats 100000 in
set_option maxRecDepth 100000 in
theorem r_campaigns {Z : xZ} (hz : zok Z) (d : Nat) (I : xI) {r : Nat} (hr : r < 5) : ER Z (d + 1) 104 I [.ref 74, .int (nI r)] (fun I' v => I' = I ∧ v = some (.int (if 0 < I 87 r ∧ I 87 r = I 81 r then 1 else 0))) := by
  refine ER.of (ls := [some (.ref 74), some (.int (nI r))]) rfl rfl ?_
  repeat' (first
      | (with_reducible refine WR.lt (by omega) (by omega) (fun _ => ?_) (fun _ => ?_) <;> try (exfalso; omega))
      | (with_reducible refine WR.le (by omega) (by omega) (fun _ => ?_) (fun _ => ?_) <;> try (exfalso; omega))
      | (with_reducible refine WR.eq (by omega) (by omega) (fun _ => ?_) (fun _ => ?_) <;> try (exfalso; omega))
      | (with_reducible refine WR.ne (by omega) (by omega) (fun _ => ?_) (fun _ => ?_) <;> try (exfalso; omega))
      | with_reducible refine WR.lt0 (by omega) ?_
      | with_reducible refine WR.ge0 (by omega) ?_
      | with_reducible refine WR.br (fun _ => ?_) (fun _ => ?_)
      | refine WR.gi hz rfl ?_
      | refine WR.gr hz rfl rfl ?_
      | refine WR.addn rfl (by with_reducible rfl) (by with_reducible rfl) ?_
      | refine WR.muln rfl (by with_reducible rfl) (by with_reducible rfl) ?_
      | (refine WR.incn rfl rfl ?_; dsimp only [List.set])
      | refine WR.ai hz rfl rfl rfl rfl (by with_reducible rfl) (by omega) ?_
      | refine WR.si hz rfl rfl rfl rfl (by with_reducible rfl) (by omega) ?_
      | refine WR.az hz rfl rfl rfl rfl (by with_reducible rfl) (by omega) ?_
      | refine WR.sz hz rfl rfl rfl rfl (by with_reducible rfl) (by omega) (by decide) ?_
      | refine WR.pi hz rfl ?_
      | (refine WR.go rfl rfl ?_; try dsimp only [List.set])
      | refine WR.rt rfl rfl rfl rfl ?_
      | refine WR.rz rfl rfl (by decide) ?_)
  all_goals trace_state
  all_goals sorry
