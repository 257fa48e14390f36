/-! the reference: move, remove, forget, install, above -/
section MOVE
variable {Z : xZ}
def f_mvH (I : xI) (i j : Nat) : xI := x_u (x_u (x_u (x_u (x_u (x_u (x_u I 93 j (I 93 i)) 94 j (I 94 i)) 95 j (I 95 i)) 96 j (I 96 i)) 97 j (I 97 i)) 98 j (I 98 i)) 99 j (I 99 i)
def f_mv (I : xI) (i j : Nat) : xI := f_fillF (f_fillF (f_mvH I i j) 100 (25 * j) 25 (fun s => I 100 (25 * i + s))) 101 (25 * j) 25 (fun s => I 101 (25 * i + s))
theorem f_fillF_out (I : xI) {a base n j : Nat} (g : Nat → Int32) (h : j < base ∨ base + n ≤ j) : f_fillF I a base n g a j = I a j := by
  simp only [f_fillF]
  rw [if_neg (by omega)]
set_option maxHeartbeats 4000000 in
theorem r_move (d : Nat) (I : xI) {i j : Nat} (hi : i < 32) (hj : j < 32) (hij : i ≠ j) (hz : zok Z) : ER Z (d + 1) 116 I [.ref 74, .int (nI i), .int (nI j)] (fun I' v => I' = f_mv I i j ∧ v = none) := by
  refine ER.of (ls := [some (.ref 74), some (.int (nI i)), some (.int (nI j)), none]) rfl rfl ?_
  iterate 58 (first
      | (with_reducible refine WR.lt (by omega) (by omega) (fun _ => ?_) (fun _ => ?_) <;> try (exfalso; omega))
      | (with_reducible refine WR.le (by omega) (by omega) (fun _ => ?_) (fun _ => ?_) <;> try (exfalso; omega))
      | (with_reducible refine WR.eq (by omega) (by omega) (fun _ => ?_) (fun _ => ?_) <;> try (exfalso; omega))
      | (with_reducible refine WR.ne (by omega) (by omega) (fun _ => ?_) (fun _ => ?_) <;> try (exfalso; omega))
      | with_reducible refine WR.lt0 (by omega) ?_
      | with_reducible refine WR.ge0 (by omega) ?_
      | (with_reducible refine WR.br (fun _ => ?_) (fun _ => ?_) <;> try contradiction)
      | refine WR.gik hz rfl (by assumption) ?_
      | refine WR.gi hz rfl ?_
      | refine WR.gr hz rfl rfl ?_
      | refine WR.addn rfl (by with_reducible rfl) (by with_reducible rfl) ?_
      | refine WR.muln rfl (by with_reducible rfl) (by with_reducible rfl) ?_
      | refine WR.subn rfl (by with_reducible rfl) (by with_reducible rfl) (by omega) ?_
      | (refine WR.incn rfl rfl ?_; dsimp only [List.set])
      | (refine WR.go rfl rfl ?_; try dsimp only [List.set])
      | refine WR.aik hz rfl rfl rfl rfl (by first | with_reducible rfl | assumption) (by omega) (by assumption) ?_
      | refine WR.ai hz rfl rfl rfl rfl (by first | with_reducible rfl | assumption) (by omega) ?_
      | refine WR.si hz rfl rfl rfl rfl (by first | with_reducible rfl | assumption) (by omega) ?_
      | refine WR.az hz rfl rfl rfl rfl (by first | with_reducible rfl | assumption) (by omega) ?_
      | refine WR.sz hz rfl rfl rfl rfl (by first | with_reducible rfl | assumption) (by omega) (by decide) ?_
      | refine WR.pi hz rfl ?_
      | refine WR.rt rfl rfl rfl rfl ?_
      | refine WR.rz rfl rfl (by decide) ?_)
  refine WR.cast (I2 := f_mvH I i j) (by simp [f_mvH, x_u]) ?_
  have h100 : ∀ s, f_mvH I i j 100 s = I 100 s := fun s => by simp [f_mvH, x_u]
  have h101 : ∀ s, f_mvH I i j 101 s = I 101 s := fun s => by simp [f_mvH, x_u]
  generalize hJ : f_mvH I i j = J at h100 h101
  refine WR.cast (by rw [f_fillF0, f_fillF0]) (WR.loop (fun m => f_fillF (f_fillF J 100 (25 * j) m (fun s => I 100 (25 * i + s))) 101 (25 * j) m (fun s => I 101 (25 * i + s))) (fun m => [some (.ref 74), some (.int (nI i)), some (.int (nI j)), some (.int (nI m))]) 25 ?_ (fun m hm hk => ?_) 25 0 rfl)
  · iterate 5 (first
      | (with_reducible refine WR.lt (by omega) (by omega) (fun _ => ?_) (fun _ => ?_) <;> try (exfalso; omega))
      | (with_reducible refine WR.le (by omega) (by omega) (fun _ => ?_) (fun _ => ?_) <;> try (exfalso; omega))
      | (with_reducible refine WR.eq (by omega) (by omega) (fun _ => ?_) (fun _ => ?_) <;> try (exfalso; omega))
      | (with_reducible refine WR.ne (by omega) (by omega) (fun _ => ?_) (fun _ => ?_) <;> try (exfalso; omega))
      | with_reducible refine WR.lt0 (by omega) ?_
      | with_reducible refine WR.ge0 (by omega) ?_
      | (with_reducible refine WR.br (fun _ => ?_) (fun _ => ?_) <;> try contradiction)
      | refine WR.gik hz rfl (by assumption) ?_
      | refine WR.gi hz rfl ?_
      | refine WR.gr hz rfl rfl ?_
      | refine WR.addn rfl (by with_reducible rfl) (by with_reducible rfl) ?_
      | refine WR.muln rfl (by with_reducible rfl) (by with_reducible rfl) ?_
      | refine WR.subn rfl (by with_reducible rfl) (by with_reducible rfl) (by omega) ?_
      | (refine WR.incn rfl rfl ?_; dsimp only [List.set])
      | (refine WR.go rfl rfl ?_; try dsimp only [List.set])
      | refine WR.aik hz rfl rfl rfl rfl (by first | with_reducible rfl | assumption) (by omega) (by assumption) ?_
      | refine WR.ai hz rfl rfl rfl rfl (by first | with_reducible rfl | assumption) (by omega) ?_
      | refine WR.si hz rfl rfl rfl rfl (by first | with_reducible rfl | assumption) (by omega) ?_
      | refine WR.az hz rfl rfl rfl rfl (by first | with_reducible rfl | assumption) (by omega) ?_
      | refine WR.sz hz rfl rfl rfl rfl (by first | with_reducible rfl | assumption) (by omega) (by decide) ?_
      | refine WR.pi hz rfl ?_
      | refine WR.rt rfl rfl rfl rfl ?_
      | refine WR.rz rfl rfl (by decide) ?_)
    refine ⟨?_, rfl⟩
    rw [f_mv, hJ]
  · repeat' (first | with_reducible refine WR.cast ?_ hk | (first
      | (with_reducible refine WR.lt (by omega) (by omega) (fun _ => ?_) (fun _ => ?_) <;> try (exfalso; omega))
      | (with_reducible refine WR.le (by omega) (by omega) (fun _ => ?_) (fun _ => ?_) <;> try (exfalso; omega))
      | (with_reducible refine WR.eq (by omega) (by omega) (fun _ => ?_) (fun _ => ?_) <;> try (exfalso; omega))
      | (with_reducible refine WR.ne (by omega) (by omega) (fun _ => ?_) (fun _ => ?_) <;> try (exfalso; omega))
      | with_reducible refine WR.lt0 (by omega) ?_
      | with_reducible refine WR.ge0 (by omega) ?_
      | (with_reducible refine WR.br (fun _ => ?_) (fun _ => ?_) <;> try contradiction)
      | refine WR.gik hz rfl (by assumption) ?_
      | refine WR.gi hz rfl ?_
      | refine WR.gr hz rfl rfl ?_
      | refine WR.addn rfl (by with_reducible rfl) (by with_reducible rfl) ?_
      | refine WR.muln rfl (by with_reducible rfl) (by with_reducible rfl) ?_
      | refine WR.subn rfl (by with_reducible rfl) (by with_reducible rfl) (by omega) ?_
      | (refine WR.incn rfl rfl ?_; dsimp only [List.set])
      | (refine WR.go rfl rfl ?_; try dsimp only [List.set])
      | refine WR.aik hz rfl rfl rfl rfl (by first | with_reducible rfl | assumption) (by omega) (by assumption) ?_
      | refine WR.ai hz rfl rfl rfl rfl (by first | with_reducible rfl | assumption) (by omega) ?_
      | refine WR.si hz rfl rfl rfl rfl (by first | with_reducible rfl | assumption) (by omega) ?_
      | refine WR.az hz rfl rfl rfl rfl (by first | with_reducible rfl | assumption) (by omega) ?_
      | refine WR.sz hz rfl rfl rfl rfl (by first | with_reducible rfl | assumption) (by omega) (by decide) ?_
      | refine WR.pi hz rfl ?_
      | refine WR.rt rfl rfl rfl rfl ?_
      | refine WR.rz rfl rfl (by decide) ?_))
    rw [← f_fillF_ne _ _ _ _ _ _ (by decide), f_fillFS _ _ _ _ _ ?_, f_fillFS _ _ _ _ _ ?_]
    · rw [f_fillF_o _ _ _ _ _ (by decide), f_fillF_out _ _ (by omega), h100]
    · rw [f_fillF_out _ _ (by omega), x_u_ne _ _ (by simp), f_fillF_o _ _ _ _ _ (by decide), h101]
theorem f_mv_o (I : xI) (i j : Nat) {a m : Nat} (h : a < 93 ∨ 101 < a) : f_mv I i j a m = I a m := by
  rw [f_mv, f_fillF_o _ _ _ _ _ (by omega), f_fillF_o _ _ _ _ _ (by omega)]
  have e1 : ¬ a = 93 := by omega
  have e2 : ¬ a = 94 := by omega
  have e3 : ¬ a = 95 := by omega
  have e4 : ¬ a = 96 := by omega
  have e5 : ¬ a = 97 := by omega
  have e6 : ¬ a = 98 := by omega
  have e7 : ¬ a = 99 := by omega
  simp [f_mvH, x_u, e1, e2, e3, e4, e5, e6, e7]
def f_rmL (I : xI) (i : Nat) : Nat → xI
  | 0 => I
  | m + 1 => f_mv (f_rmL I i m) (i + 1 + m) (i + m)
theorem f_rmL_o (I : xI) (i : Nat) {a j : Nat} (h : a < 93 ∨ 101 < a) : ∀ m, f_rmL I i m a j = I a j := by
  intro m
  induction m with
  | zero => rfl
  | succ m ih => rw [f_rmL, f_mv_o _ _ _ h, ih]
def f_rm (I : xI) (i : Nat) : xI := x_u (f_rmL I i (f_w I - (i + 1))) 74 20 (nI (f_w I - 1))
set_option maxHeartbeats 4000000 in
theorem r_remove (d : Nat) (I : xI) {i : Nat} (hw : f_wok I) (hi : i < f_w I) (hz : zok Z) : ER Z (d + 2) 115 I [.ref 74, .int (nI i)] (fun I' v => I' = f_rm I i ∧ v = none) := by
  have hw2 := hw.2
  refine ER.of (ls := [some (.ref 74), some (.int (nI i)), none]) rfl rfl ?_
  iterate 4 (first
      | (with_reducible refine WR.lt (by omega) (by omega) (fun _ => ?_) (fun _ => ?_) <;> try (exfalso; omega))
      | (with_reducible refine WR.le (by omega) (by omega) (fun _ => ?_) (fun _ => ?_) <;> try (exfalso; omega))
      | (with_reducible refine WR.eq (by omega) (by omega) (fun _ => ?_) (fun _ => ?_) <;> try (exfalso; omega))
      | (with_reducible refine WR.ne (by omega) (by omega) (fun _ => ?_) (fun _ => ?_) <;> try (exfalso; omega))
      | with_reducible refine WR.lt0 (by omega) ?_
      | with_reducible refine WR.ge0 (by omega) ?_
      | (with_reducible refine WR.br (fun _ => ?_) (fun _ => ?_) <;> try contradiction)
      | refine WR.gik hz rfl (by assumption) ?_
      | refine WR.gi hz rfl ?_
      | refine WR.gr hz rfl rfl ?_
      | refine WR.addn rfl (by with_reducible rfl) (by with_reducible rfl) ?_
      | refine WR.muln rfl (by with_reducible rfl) (by with_reducible rfl) ?_
      | refine WR.subn rfl (by with_reducible rfl) (by with_reducible rfl) (by omega) ?_
      | (refine WR.incn rfl rfl ?_; dsimp only [List.set])
      | (refine WR.go rfl rfl ?_; try dsimp only [List.set])
      | refine WR.aik hz rfl rfl rfl rfl (by first | with_reducible rfl | assumption) (by omega) (by assumption) ?_
      | refine WR.ai hz rfl rfl rfl rfl (by first | with_reducible rfl | assumption) (by omega) ?_
      | refine WR.si hz rfl rfl rfl rfl (by first | with_reducible rfl | assumption) (by omega) ?_
      | refine WR.az hz rfl rfl rfl rfl (by first | with_reducible rfl | assumption) (by omega) ?_
      | refine WR.sz hz rfl rfl rfl rfl (by first | with_reducible rfl | assumption) (by omega) (by decide) ?_
      | refine WR.pi hz rfl ?_
      | refine WR.rt rfl rfl rfl rfl ?_
      | refine WR.rz rfl rfl (by decide) ?_)
  refine WR.loop (fun m => f_rmL I i m) (fun m => [some (.ref 74), some (.int (nI i)), some (.int (nI (i + 1 + m)))]) (f_w I - (i + 1)) ?_ (fun m hm hk => ?_) (f_w I - (i + 1)) 0 (by omega)
  · have hn : f_rmL I i (f_w I - (i + 1)) 74 20 = nI (f_w I) := by rw [f_rmL_o _ _ (by decide)]; exact hw.1
    repeat' (first
      | (with_reducible refine WR.lt (by omega) (by omega) (fun _ => ?_) (fun _ => ?_) <;> try (exfalso; omega))
      | (with_reducible refine WR.le (by omega) (by omega) (fun _ => ?_) (fun _ => ?_) <;> try (exfalso; omega))
      | (with_reducible refine WR.eq (by omega) (by omega) (fun _ => ?_) (fun _ => ?_) <;> try (exfalso; omega))
      | (with_reducible refine WR.ne (by omega) (by omega) (fun _ => ?_) (fun _ => ?_) <;> try (exfalso; omega))
      | with_reducible refine WR.lt0 (by omega) ?_
      | with_reducible refine WR.ge0 (by omega) ?_
      | (with_reducible refine WR.br (fun _ => ?_) (fun _ => ?_) <;> try contradiction)
      | refine WR.gik hz rfl (by assumption) ?_
      | refine WR.gi hz rfl ?_
      | refine WR.gr hz rfl rfl ?_
      | refine WR.addn rfl (by with_reducible rfl) (by with_reducible rfl) ?_
      | refine WR.muln rfl (by with_reducible rfl) (by with_reducible rfl) ?_
      | refine WR.subn rfl (by with_reducible rfl) (by with_reducible rfl) (by omega) ?_
      | (refine WR.incn rfl rfl ?_; dsimp only [List.set])
      | (refine WR.go rfl rfl ?_; try dsimp only [List.set])
      | refine WR.aik hz rfl rfl rfl rfl (by first | with_reducible rfl | assumption) (by omega) (by assumption) ?_
      | refine WR.ai hz rfl rfl rfl rfl (by first | with_reducible rfl | assumption) (by omega) ?_
      | refine WR.si hz rfl rfl rfl rfl (by first | with_reducible rfl | assumption) (by omega) ?_
      | refine WR.az hz rfl rfl rfl rfl (by first | with_reducible rfl | assumption) (by omega) ?_
      | refine WR.sz hz rfl rfl rfl rfl (by first | with_reducible rfl | assumption) (by omega) (by decide) ?_
      | refine WR.pi hz rfl ?_
      | refine WR.rt rfl rfl rfl rfl ?_
      | refine WR.rz rfl rfl (by decide) ?_)
    exact ⟨rfl, rfl⟩
  · have hn : f_rmL I i m 74 20 = nI (f_w I) := by rw [f_rmL_o _ _ (by decide)]; exact hw.1
    iterate 10 (first
      | (with_reducible refine WR.lt (by omega) (by omega) (fun _ => ?_) (fun _ => ?_) <;> try (exfalso; omega))
      | (with_reducible refine WR.le (by omega) (by omega) (fun _ => ?_) (fun _ => ?_) <;> try (exfalso; omega))
      | (with_reducible refine WR.eq (by omega) (by omega) (fun _ => ?_) (fun _ => ?_) <;> try (exfalso; omega))
      | (with_reducible refine WR.ne (by omega) (by omega) (fun _ => ?_) (fun _ => ?_) <;> try (exfalso; omega))
      | with_reducible refine WR.lt0 (by omega) ?_
      | with_reducible refine WR.ge0 (by omega) ?_
      | (with_reducible refine WR.br (fun _ => ?_) (fun _ => ?_) <;> try contradiction)
      | refine WR.gik hz rfl (by assumption) ?_
      | refine WR.gi hz rfl ?_
      | refine WR.gr hz rfl rfl ?_
      | refine WR.addn rfl (by with_reducible rfl) (by with_reducible rfl) ?_
      | refine WR.muln rfl (by with_reducible rfl) (by with_reducible rfl) ?_
      | refine WR.subn rfl (by with_reducible rfl) (by with_reducible rfl) (by omega) ?_
      | (refine WR.incn rfl rfl ?_; dsimp only [List.set])
      | (refine WR.go rfl rfl ?_; try dsimp only [List.set])
      | refine WR.aik hz rfl rfl rfl rfl (by first | with_reducible rfl | assumption) (by omega) (by assumption) ?_
      | refine WR.ai hz rfl rfl rfl rfl (by first | with_reducible rfl | assumption) (by omega) ?_
      | refine WR.si hz rfl rfl rfl rfl (by first | with_reducible rfl | assumption) (by omega) ?_
      | refine WR.az hz rfl rfl rfl rfl (by first | with_reducible rfl | assumption) (by omega) ?_
      | refine WR.sz hz rfl rfl rfl rfl (by first | with_reducible rfl | assumption) (by omega) (by decide) ?_
      | refine WR.pi hz rfl ?_
      | refine WR.rt rfl rfl rfl rfl ?_
      | refine WR.rz rfl rfl (by decide) ?_)
    refine WR.V2v hz rfl rfl (r_move d _ (by omega) (by omega) (by omega) hz) ?_
    repeat' (first | with_reducible refine WR.cast ?_ hk | (first
      | (with_reducible refine WR.lt (by omega) (by omega) (fun _ => ?_) (fun _ => ?_) <;> try (exfalso; omega))
      | (with_reducible refine WR.le (by omega) (by omega) (fun _ => ?_) (fun _ => ?_) <;> try (exfalso; omega))
      | (with_reducible refine WR.eq (by omega) (by omega) (fun _ => ?_) (fun _ => ?_) <;> try (exfalso; omega))
      | (with_reducible refine WR.ne (by omega) (by omega) (fun _ => ?_) (fun _ => ?_) <;> try (exfalso; omega))
      | with_reducible refine WR.lt0 (by omega) ?_
      | with_reducible refine WR.ge0 (by omega) ?_
      | (with_reducible refine WR.br (fun _ => ?_) (fun _ => ?_) <;> try contradiction)
      | refine WR.gik hz rfl (by assumption) ?_
      | refine WR.gi hz rfl ?_
      | refine WR.gr hz rfl rfl ?_
      | refine WR.addn rfl (by with_reducible rfl) (by with_reducible rfl) ?_
      | refine WR.muln rfl (by with_reducible rfl) (by with_reducible rfl) ?_
      | refine WR.subn rfl (by with_reducible rfl) (by with_reducible rfl) (by omega) ?_
      | (refine WR.incn rfl rfl ?_; dsimp only [List.set])
      | (refine WR.go rfl rfl ?_; try dsimp only [List.set])
      | refine WR.aik hz rfl rfl rfl rfl (by first | with_reducible rfl | assumption) (by omega) (by assumption) ?_
      | refine WR.ai hz rfl rfl rfl rfl (by first | with_reducible rfl | assumption) (by omega) ?_
      | refine WR.si hz rfl rfl rfl rfl (by first | with_reducible rfl | assumption) (by omega) ?_
      | refine WR.az hz rfl rfl rfl rfl (by first | with_reducible rfl | assumption) (by omega) ?_
      | refine WR.sz hz rfl rfl rfl rfl (by first | with_reducible rfl | assumption) (by omega) (by decide) ?_
      | refine WR.pi hz rfl ?_
      | refine WR.rt rfl rfl rfl rfl ?_
      | refine WR.rz rfl rfl (by decide) ?_))
    rw [f_rmL, show i + 1 + m - 1 = i + m by omega]
def f_fg (I : xI) (r : Nat) : Nat → xI × Int32
  | 0 => (I, nI 0)
  | s + 1 => (x_u (x_u (x_u (f_fg I r s).1 85 (25 * r + (s + 1)) (nI 0)) 86 (25 * r + (s + 1)) (nI 0)) 84 r ((f_fg I r s).1 84 r &&& (nI 1 <<< (nI (s + 1) &&& 31) ^^^ -1)), (f_fg I r s).2 + (if (f_fg I r s).1 85 (25 * r + (s + 1)) ≤ 0 then nI 0 else nI 1))
set_option maxHeartbeats 4000000 in
theorem r_forget (d : Nat) (I : xI) {r f : Nat} (hr : r < 5) (hf : f ≤ 24) (hz : zok Z) : ER Z (d + 1) 121 I [.ref 74, .int (nI r), .int (nI f)] (fun I' v => I' = (f_fg I r f).1 ∧ v = some (.int (f_fg I r f).2)) := by
  refine ER.of (ls := [some (.ref 74), some (.int (nI r)), some (.int (nI f)), none, none]) rfl rfl ?_
  iterate 4 (first
      | (with_reducible refine WR.lt (by omega) (by omega) (fun _ => ?_) (fun _ => ?_) <;> try (exfalso; omega))
      | (with_reducible refine WR.le (by omega) (by omega) (fun _ => ?_) (fun _ => ?_) <;> try (exfalso; omega))
      | (with_reducible refine WR.eq (by omega) (by omega) (fun _ => ?_) (fun _ => ?_) <;> try (exfalso; omega))
      | (with_reducible refine WR.ne (by omega) (by omega) (fun _ => ?_) (fun _ => ?_) <;> try (exfalso; omega))
      | with_reducible refine WR.lt0 (by omega) ?_
      | with_reducible refine WR.ge0 (by omega) ?_
      | (with_reducible refine WR.br (fun _ => ?_) (fun _ => ?_) <;> try contradiction)
      | refine WR.gik hz rfl (by assumption) ?_
      | refine WR.gi hz rfl ?_
      | refine WR.gr hz rfl rfl ?_
      | refine WR.addn rfl (by with_reducible rfl) (by with_reducible rfl) ?_
      | refine WR.muln rfl (by with_reducible rfl) (by with_reducible rfl) ?_
      | refine WR.subn rfl (by with_reducible rfl) (by with_reducible rfl) (by omega) ?_
      | (refine WR.incn rfl rfl ?_; dsimp only [List.set])
      | (refine WR.go rfl rfl ?_; try dsimp only [List.set])
      | refine WR.aik hz rfl rfl rfl rfl (by first | with_reducible rfl | assumption) (by omega) (by assumption) ?_
      | refine WR.ai hz rfl rfl rfl rfl (by first | with_reducible rfl | assumption) (by omega) ?_
      | refine WR.si hz rfl rfl rfl rfl (by first | with_reducible rfl | assumption) (by omega) ?_
      | refine WR.az hz rfl rfl rfl rfl (by first | with_reducible rfl | assumption) (by omega) ?_
      | refine WR.sz hz rfl rfl rfl rfl (by first | with_reducible rfl | assumption) (by omega) (by decide) ?_
      | refine WR.pi hz rfl ?_
      | refine WR.rt rfl rfl rfl rfl ?_
      | refine WR.rz rfl rfl (by decide) ?_)
  refine WR.loop (fun m => (f_fg I r m).1) (fun m => [some (.ref 74), some (.int (nI r)), some (.int (nI f)), some (.int (f_fg I r m).2), some (.int (nI (m + 1)))]) f ?_ (fun m hm hk => ?_) f 0 (by omega)
  · iterate 6 (first
      | (with_reducible refine WR.lt (by omega) (by omega) (fun _ => ?_) (fun _ => ?_) <;> try (exfalso; omega))
      | (with_reducible refine WR.le (by omega) (by omega) (fun _ => ?_) (fun _ => ?_) <;> try (exfalso; omega))
      | (with_reducible refine WR.eq (by omega) (by omega) (fun _ => ?_) (fun _ => ?_) <;> try (exfalso; omega))
      | (with_reducible refine WR.ne (by omega) (by omega) (fun _ => ?_) (fun _ => ?_) <;> try (exfalso; omega))
      | with_reducible refine WR.lt0 (by omega) ?_
      | with_reducible refine WR.ge0 (by omega) ?_
      | (with_reducible refine WR.br (fun _ => ?_) (fun _ => ?_) <;> try contradiction)
      | refine WR.gik hz rfl (by assumption) ?_
      | refine WR.gi hz rfl ?_
      | refine WR.gr hz rfl rfl ?_
      | refine WR.addn rfl (by with_reducible rfl) (by with_reducible rfl) ?_
      | refine WR.muln rfl (by with_reducible rfl) (by with_reducible rfl) ?_
      | refine WR.subn rfl (by with_reducible rfl) (by with_reducible rfl) (by omega) ?_
      | (refine WR.incn rfl rfl ?_; dsimp only [List.set])
      | (refine WR.go rfl rfl ?_; try dsimp only [List.set])
      | refine WR.aik hz rfl rfl rfl rfl (by first | with_reducible rfl | assumption) (by omega) (by assumption) ?_
      | refine WR.ai hz rfl rfl rfl rfl (by first | with_reducible rfl | assumption) (by omega) ?_
      | refine WR.si hz rfl rfl rfl rfl (by first | with_reducible rfl | assumption) (by omega) ?_
      | refine WR.az hz rfl rfl rfl rfl (by first | with_reducible rfl | assumption) (by omega) ?_
      | refine WR.sz hz rfl rfl rfl rfl (by first | with_reducible rfl | assumption) (by omega) (by decide) ?_
      | refine WR.pi hz rfl ?_
      | refine WR.rt rfl rfl rfl rfl ?_
      | refine WR.rz rfl rfl (by decide) ?_)
    exact ⟨rfl, rfl⟩
  · simp only [f_fg] at hk
    generalize hJ : f_fg I r m = J at hk
    obtain ⟨J, n⟩ := J
    simp only at hk ⊢
    iterate 15 (first
      | (with_reducible refine WR.lt (by omega) (by omega) (fun _ => ?_) (fun _ => ?_) <;> try (exfalso; omega))
      | (with_reducible refine WR.le (by omega) (by omega) (fun _ => ?_) (fun _ => ?_) <;> try (exfalso; omega))
      | (with_reducible refine WR.eq (by omega) (by omega) (fun _ => ?_) (fun _ => ?_) <;> try (exfalso; omega))
      | (with_reducible refine WR.ne (by omega) (by omega) (fun _ => ?_) (fun _ => ?_) <;> try (exfalso; omega))
      | with_reducible refine WR.lt0 (by omega) ?_
      | with_reducible refine WR.ge0 (by omega) ?_
      | (with_reducible refine WR.br (fun _ => ?_) (fun _ => ?_) <;> try contradiction)
      | refine WR.gik hz rfl (by assumption) ?_
      | refine WR.gi hz rfl ?_
      | refine WR.gr hz rfl rfl ?_
      | refine WR.addn rfl (by with_reducible rfl) (by with_reducible rfl) ?_
      | refine WR.muln rfl (by with_reducible rfl) (by with_reducible rfl) ?_
      | refine WR.subn rfl (by with_reducible rfl) (by with_reducible rfl) (by omega) ?_
      | (refine WR.incn rfl rfl ?_; dsimp only [List.set])
      | (refine WR.go rfl rfl ?_; try dsimp only [List.set])
      | refine WR.aik hz rfl rfl rfl rfl (by first | with_reducible rfl | assumption) (by omega) (by assumption) ?_
      | refine WR.ai hz rfl rfl rfl rfl (by first | with_reducible rfl | assumption) (by omega) ?_
      | refine WR.si hz rfl rfl rfl rfl (by first | with_reducible rfl | assumption) (by omega) ?_
      | refine WR.az hz rfl rfl rfl rfl (by first | with_reducible rfl | assumption) (by omega) ?_
      | refine WR.sz hz rfl rfl rfl rfl (by first | with_reducible rfl | assumption) (by omega) (by decide) ?_
      | refine WR.pi hz rfl ?_
      | refine WR.rt rfl rfl rfl rfl ?_
      | refine WR.rz rfl rfl (by decide) ?_)
    · rename_i h
      rw [if_pos h] at hk
      repeat' (first | with_reducible refine WR.cast ?_ hk | (first
      | (with_reducible refine WR.lt (by omega) (by omega) (fun _ => ?_) (fun _ => ?_) <;> try (exfalso; omega))
      | (with_reducible refine WR.le (by omega) (by omega) (fun _ => ?_) (fun _ => ?_) <;> try (exfalso; omega))
      | (with_reducible refine WR.eq (by omega) (by omega) (fun _ => ?_) (fun _ => ?_) <;> try (exfalso; omega))
      | (with_reducible refine WR.ne (by omega) (by omega) (fun _ => ?_) (fun _ => ?_) <;> try (exfalso; omega))
      | with_reducible refine WR.lt0 (by omega) ?_
      | with_reducible refine WR.ge0 (by omega) ?_
      | (with_reducible refine WR.br (fun _ => ?_) (fun _ => ?_) <;> try contradiction)
      | refine WR.gik hz rfl (by assumption) ?_
      | refine WR.gi hz rfl ?_
      | refine WR.gr hz rfl rfl ?_
      | refine WR.addn rfl (by with_reducible rfl) (by with_reducible rfl) ?_
      | refine WR.muln rfl (by with_reducible rfl) (by with_reducible rfl) ?_
      | refine WR.subn rfl (by with_reducible rfl) (by with_reducible rfl) (by omega) ?_
      | (refine WR.incn rfl rfl ?_; dsimp only [List.set])
      | (refine WR.go rfl rfl ?_; try dsimp only [List.set])
      | refine WR.aik hz rfl rfl rfl rfl (by first | with_reducible rfl | assumption) (by omega) (by assumption) ?_
      | refine WR.ai hz rfl rfl rfl rfl (by first | with_reducible rfl | assumption) (by omega) ?_
      | refine WR.si hz rfl rfl rfl rfl (by first | with_reducible rfl | assumption) (by omega) ?_
      | refine WR.az hz rfl rfl rfl rfl (by first | with_reducible rfl | assumption) (by omega) ?_
      | refine WR.sz hz rfl rfl rfl rfl (by first | with_reducible rfl | assumption) (by omega) (by decide) ?_
      | refine WR.pi hz rfl ?_
      | refine WR.rt rfl rfl rfl rfl ?_
      | refine WR.rz rfl rfl (by decide) ?_))
      simp [x_u]
    · rename_i h
      rw [if_neg h] at hk
      repeat' (first | with_reducible refine WR.cast ?_ hk | (first
      | (with_reducible refine WR.lt (by omega) (by omega) (fun _ => ?_) (fun _ => ?_) <;> try (exfalso; omega))
      | (with_reducible refine WR.le (by omega) (by omega) (fun _ => ?_) (fun _ => ?_) <;> try (exfalso; omega))
      | (with_reducible refine WR.eq (by omega) (by omega) (fun _ => ?_) (fun _ => ?_) <;> try (exfalso; omega))
      | (with_reducible refine WR.ne (by omega) (by omega) (fun _ => ?_) (fun _ => ?_) <;> try (exfalso; omega))
      | with_reducible refine WR.lt0 (by omega) ?_
      | with_reducible refine WR.ge0 (by omega) ?_
      | (with_reducible refine WR.br (fun _ => ?_) (fun _ => ?_) <;> try contradiction)
      | refine WR.gik hz rfl (by assumption) ?_
      | refine WR.gi hz rfl ?_
      | refine WR.gr hz rfl rfl ?_
      | refine WR.addn rfl (by with_reducible rfl) (by with_reducible rfl) ?_
      | refine WR.muln rfl (by with_reducible rfl) (by with_reducible rfl) ?_
      | refine WR.subn rfl (by with_reducible rfl) (by with_reducible rfl) (by omega) ?_
      | (refine WR.incn rfl rfl ?_; dsimp only [List.set])
      | (refine WR.go rfl rfl ?_; try dsimp only [List.set])
      | refine WR.aik hz rfl rfl rfl rfl (by first | with_reducible rfl | assumption) (by omega) (by assumption) ?_
      | refine WR.ai hz rfl rfl rfl rfl (by first | with_reducible rfl | assumption) (by omega) ?_
      | refine WR.si hz rfl rfl rfl rfl (by first | with_reducible rfl | assumption) (by omega) ?_
      | refine WR.az hz rfl rfl rfl rfl (by first | with_reducible rfl | assumption) (by omega) ?_
      | refine WR.sz hz rfl rfl rfl rfl (by first | with_reducible rfl | assumption) (by omega) (by decide) ?_
      | refine WR.pi hz rfl ?_
      | refine WR.rt rfl rfl rfl rfl ?_
      | refine WR.rz rfl rfl (by decide) ?_))
      simp [x_u]
def f_inst (I : xI) (r f : Nat) : xI := if nI f ≤ I 83 r then I else (f_fg (x_u (x_u I 82 r (nI f)) 83 r (nI f)) r f).1
set_option maxHeartbeats 4000000 in
theorem r_install (d : Nat) (I : xI) {r f : Nat} (hr : r < 5) (hf : f ≤ 24) (hz : zok Z) : ER Z (d + 2) 120 I [.ref 74, .int (nI r), .int (nI f)] (fun I' v => I' = f_inst I r f ∧ v = none) := by
  refine ER.of (ls := [some (.ref 74), some (.int (nI r)), some (.int (nI f))]) rfl rfl ?_
  repeat' (first
      | (with_reducible refine WR.lt (by omega) (by omega) (fun _ => ?_) (fun _ => ?_) <;> try (exfalso; omega))
      | (with_reducible refine WR.le (by omega) (by omega) (fun _ => ?_) (fun _ => ?_) <;> try (exfalso; omega))
      | (with_reducible refine WR.eq (by omega) (by omega) (fun _ => ?_) (fun _ => ?_) <;> try (exfalso; omega))
      | (with_reducible refine WR.ne (by omega) (by omega) (fun _ => ?_) (fun _ => ?_) <;> try (exfalso; omega))
      | with_reducible refine WR.lt0 (by omega) ?_
      | with_reducible refine WR.ge0 (by omega) ?_
      | (with_reducible refine WR.br (fun _ => ?_) (fun _ => ?_) <;> try contradiction)
      | refine WR.gik hz rfl (by assumption) ?_
      | refine WR.gi hz rfl ?_
      | refine WR.gr hz rfl rfl ?_
      | refine WR.addn rfl (by with_reducible rfl) (by with_reducible rfl) ?_
      | refine WR.muln rfl (by with_reducible rfl) (by with_reducible rfl) ?_
      | refine WR.subn rfl (by with_reducible rfl) (by with_reducible rfl) (by omega) ?_
      | (refine WR.incn rfl rfl ?_; dsimp only [List.set])
      | (refine WR.go rfl rfl ?_; try dsimp only [List.set])
      | refine WR.aik hz rfl rfl rfl rfl (by first | with_reducible rfl | assumption) (by omega) (by assumption) ?_
      | refine WR.ai hz rfl rfl rfl rfl (by first | with_reducible rfl | assumption) (by omega) ?_
      | refine WR.si hz rfl rfl rfl rfl (by first | with_reducible rfl | assumption) (by omega) ?_
      | refine WR.az hz rfl rfl rfl rfl (by first | with_reducible rfl | assumption) (by omega) ?_
      | refine WR.sz hz rfl rfl rfl rfl (by first | with_reducible rfl | assumption) (by omega) (by decide) ?_
      | refine WR.pi hz rfl ?_
      | refine WR.rt rfl rfl rfl rfl ?_
      | refine WR.rz rfl rfl (by decide) ?_)
  · rename_i h
    refine WR.V2i hz rfl rfl (r_forget d _ hr hf hz) ?_
    repeat' (first
      | (with_reducible refine WR.lt (by omega) (by omega) (fun _ => ?_) (fun _ => ?_) <;> try (exfalso; omega))
      | (with_reducible refine WR.le (by omega) (by omega) (fun _ => ?_) (fun _ => ?_) <;> try (exfalso; omega))
      | (with_reducible refine WR.eq (by omega) (by omega) (fun _ => ?_) (fun _ => ?_) <;> try (exfalso; omega))
      | (with_reducible refine WR.ne (by omega) (by omega) (fun _ => ?_) (fun _ => ?_) <;> try (exfalso; omega))
      | with_reducible refine WR.lt0 (by omega) ?_
      | with_reducible refine WR.ge0 (by omega) ?_
      | (with_reducible refine WR.br (fun _ => ?_) (fun _ => ?_) <;> try contradiction)
      | refine WR.gik hz rfl (by assumption) ?_
      | refine WR.gi hz rfl ?_
      | refine WR.gr hz rfl rfl ?_
      | refine WR.addn rfl (by with_reducible rfl) (by with_reducible rfl) ?_
      | refine WR.muln rfl (by with_reducible rfl) (by with_reducible rfl) ?_
      | refine WR.subn rfl (by with_reducible rfl) (by with_reducible rfl) (by omega) ?_
      | (refine WR.incn rfl rfl ?_; dsimp only [List.set])
      | (refine WR.go rfl rfl ?_; try dsimp only [List.set])
      | refine WR.aik hz rfl rfl rfl rfl (by first | with_reducible rfl | assumption) (by omega) (by assumption) ?_
      | refine WR.ai hz rfl rfl rfl rfl (by first | with_reducible rfl | assumption) (by omega) ?_
      | refine WR.si hz rfl rfl rfl rfl (by first | with_reducible rfl | assumption) (by omega) ?_
      | refine WR.az hz rfl rfl rfl rfl (by first | with_reducible rfl | assumption) (by omega) ?_
      | refine WR.sz hz rfl rfl rfl rfl (by first | with_reducible rfl | assumption) (by omega) (by decide) ?_
      | refine WR.pi hz rfl ?_
      | refine WR.rt rfl rfl rfl rfl ?_
      | refine WR.rz rfl rfl (by decide) ?_)
    exact ⟨by rw [f_inst, if_neg (Int32.not_le.mpr h)], rfl⟩
  · rename_i h
    exact ⟨by rw [f_inst, if_pos (Int32.not_lt.mp h)], rfl⟩
end MOVE
