/-! the class: a message is taken out of the net -/
def t_R (R : Nat → Nat → Option Nat) (i m : Nat) : Nat → Nat → Option Nat := fun a j => if a = 4 ∧ i ≤ j ∧ j < i + m then R 4 (j + 1) else R a j
theorem t_R0 (R : Nat → Nat → Option Nat) (i : Nat) : t_R R i 0 = R := by
  funext a j
  exact if_neg (by omega)
theorem t_RS (R : Nat → Nat → Option Nat) (i m : Nat) : x_u (t_R R i m) 4 (i + m) (R 4 (i + m + 1)) = t_R R i (m + 1) := by
  funext a j
  by_cases h : a = 4 ∧ j = i + m
  · obtain ⟨rfl, rfl⟩ := h
    rw [x_u_eq]
    exact (if_pos ⟨rfl, by omega, by omega⟩).symm
  · rw [x_u_ne _ _ h]
    simp only [t_R]
    by_cases h2 : a = 4 ∧ i ≤ j ∧ j < i + m
    · rw [if_pos h2, if_pos ⟨h2.1, h2.2.1, by omega⟩]
    · rw [if_neg h2, if_neg (by omega)]
theorem t_R_o (R : Nat → Nat → Option Nat) {i m a j : Nat} (h : a ≠ 4 ∨ j < i ∨ i + m ≤ j) : t_R R i m a j = R a j := if_neg (by omega)
def c_tk (C : xCC) (i : Nat) : xCC := (x_u C.1 3 1 (nI (c_w C - 1)), C.2.1, C.2.2.1, C.2.2.2.1, fun j => if j < i then C.2.2.2.2 j else C.2.2.2.2 (j + 1))
def t_M (M : xM) (i w : Nat) : xM := (M.1, x_u M.2.1 3 1 (nI (w - 1)), M.2.2.1, x_u (t_R M.2.2.2 i (w - 1 - i)) 4 (w - 1) none)
section TAKE
variable {M : xM} {C : xCC}
theorem Rp.take (h : Rp M C) {i : Nat} (hi : i < c_w C) : Rp (t_M M i (c_w C)) (c_tk C i) ∧ Ext 0 M (t_M M i (c_w C)) := by
  obtain ⟨w1, w2, w3⟩ := h.w
  have hJ : ∀ b j, b ≠ 3 → x_u M.2.1 3 1 (nI (c_w C - 1)) b j = M.2.1 b j := fun b i hb => x_u_ne _ _ (fun q => hb q.1)
  have hC : ∀ b j, b ≠ 3 → x_u C.1 3 1 (nI (c_w C - 1)) b j = C.1 b j := fun b i hb => x_u_ne _ _ (fun q => hb q.1)
  have hR : ∀ b j, b ≠ 4 → x_u (t_R M.2.2.2 i (c_w C - 1 - i)) 4 (c_w C - 1) none b j = M.2.2.2 b j := fun b j hb => (x_u_ne _ _ (fun q => hb q.1)).trans (t_R_o _ (Or.inl hb))
  have he : Ext 0 M (t_M M i (c_w C)) := ⟨⟨List.prefix_refl _, fun b _ hb' _ j => ⟨hJ b j (by omega), rfl, hR b j (by omega)⟩⟩, Nat.le_refl _, Nat.le_refl _⟩
  obtain ⟨a1, a2, a3, a4, a5, a6, a7⟩ := h
  refine ⟨⟨fun b j hb => ?_, a2, a3.ext he (fun b j hb h2 h4 h6 => hR b j h4), a4.ext he (fun r hr => ⟨hR (9 + 13 * r) 7 (by omega), hR (9 + 13 * r) 6 (by omega)⟩) (fun _ _ => rfl) (fun _ _ => rfl), a5.ext he (fun q => hR 2 q (by decide)) (fun b j hb _ => hJ b j (by omega)) (hC 1 1 (by decide)) rfl, ⟨c_w C - 1, by omega, x_u_eq C.1 3 1 (nI (c_w C - 1)), fun j hj => ?_⟩, fun r hr => (hC (9 + 13 * r) 0 (by omega)).trans (a7 r hr)⟩, he⟩
  · show x_u M.2.1 3 1 (nI (c_w C - 1)) b j = x_u C.1 3 1 (nI (c_w C - 1)) b j
    simp only [x_u]
    split
    · rfl
    · exact a1 b j hb
  · show ∃ a, x_u (t_R M.2.2.2 i (c_w C - 1 - i)) 4 (c_w C - 1) none 4 j = some a ∧ mgA _ a (if j < i then C.2.2.2.2 j else C.2.2.2.2 (j + 1))
    rw [x_u_ne _ _ (by omega)]
    by_cases e : j < i
    · rw [if_pos e, t_R_o _ (by omega)]
      obtain ⟨b, b1, b2⟩ := w3 j (by omega)
      exact ⟨b, b1, b2.ext he⟩
    · rw [if_neg e, t_R, if_pos ⟨rfl, by omega, by omega⟩]
      obtain ⟨b, b1, b2⟩ := w3 (j + 1) (by omega)
      exact ⟨b, b1, b2.ext he⟩
set_option maxHeartbeats 4000000 in
theorem k_take1 (d : Nat) {i w a : Nat} (hk : rep_k M) (hw : w ≤ 32) (hi : i < w) (hm : ∀ j, j < w → ∃ b, M.2.2.2 4 j = some b ∧ M.1[b]? = some (false, 3, 8)) (Q : xM → Option Value → Prop) : ∀ (n m : Nat), i + m + n = w - 1 → Q (t_M M i w) (some (.ref a)) → Wp (d + 1) 24 22 [some (.ref 3), some (.int (nI i)), some (.ref a), some (.int (nI (i + m)))] [] (M.1, x_u M.2.1 3 1 (nI (w - 1)), M.2.2.1, t_R M.2.2.2 i m) Q := by
  obtain ⟨n1, n2, n3⟩ := hk.2.1
  have n1' : M.1[3]? = some (false, 4, 2) := n1
  have n3' : M.1[4]? = some (true, 3, 32) := n3
  have e1 : x_u M.2.1 3 1 (nI (w - 1)) 3 1 = nI (w - 1) := x_u_eq _ _ _ _
  intro n
  induction n with
  | zero =>
    intro m hn hq
    have e : m = w - 1 - i := by omega
    have n2' : t_R M.2.2.2 i m 3 0 = some 4 := (t_R_o _ (Or.inl (by decide))).trans n2
    repeat' ((with_reducible fail_if_success show Wp _ _ 59 _ _ _ _); (first
      | (with_reducible refine Wp.lt (by omega) (by omega) (fun _ => ?_) (fun _ => ?_) <;> try (exfalso; omega))
      | (with_reducible refine Wp.le (by omega) (by omega) (fun _ => ?_) (fun _ => ?_) <;> try (exfalso; omega))
      | (with_reducible refine Wp.eq (by omega) (by omega) (fun _ => ?_) (fun _ => ?_) <;> try (exfalso; omega))
      | (with_reducible refine Wp.ne (by omega) (by omega) (fun _ => ?_) (fun _ => ?_) <;> try (exfalso; omega))
      | with_reducible refine Wp.lt0 (by omega) ?_
      | with_reducible refine Wp.ge0 (by omega) ?_
      | (with_reducible refine Wp.bz (fun _ => ?_) (fun _ => ?_) <;> try contradiction)
      | (with_reducible refine Wp.bn (fun _ => ?_) (fun _ => ?_) <;> try contradiction)
      | (with_reducible refine Wp.br (fun _ => ?_) (fun _ => ?_) <;> try contradiction)
      | refine Wp.gik rfl (by assumption) (by with_reducible assumption) ?_
      | refine Wp.gi rfl (by assumption) ?_
      | refine Wp.gz rfl (by assumption) ?_
      | refine Wp.gr rfl (by assumption) (by assumption) ?_
      | refine Wp.gn rfl (by assumption) (by assumption) ?_
      | refine Wp.gl rfl (by assumption) ?_
      | refine Wp.addn rfl (by with_reducible rfl) (by with_reducible rfl) ?_
      | refine Wp.muln rfl (by with_reducible rfl) (by with_reducible rfl) ?_
      | refine Wp.subn rfl (by with_reducible rfl) (by with_reducible rfl) (by omega) ?_
      | (refine Wp.decn rfl rfl ?_; dsimp only [List.set])
      | (refine Wp.incn rfl rfl ?_; dsimp only [List.set])
      | (refine Wp.go rfl rfl ?_; try dsimp only [List.set])
      | refine Wp.pi rfl (by assumption) ?_
      | refine Wp.pr rfl (by assumption) ?_
      | refine Wp.pn rfl (by assumption) ?_
      | refine Wp.pl rfl (by assumption) ?_
      | refine Wp.aik rfl (by assumption) rfl (by first | with_reducible rfl | with_reducible assumption) (by omega) (by with_reducible assumption) ?_
      | refine Wp.aiN rfl (by assumption) rfl (by first | with_reducible rfl | with_reducible assumption) (by omega) ?_
      | refine Wp.siN rfl (by assumption) rfl (by first | with_reducible rfl | with_reducible assumption) (by omega) ?_
      | refine Wp.rt rfl rfl rfl rfl ?_
      | refine Wp.rz rfl rfl (by decide) ?_))
    refine Wp.sn rfl n3' (by decide) (by omega) (by decide) ?_
    repeat' (first
      | (with_reducible refine Wp.lt (by omega) (by omega) (fun _ => ?_) (fun _ => ?_) <;> try (exfalso; omega))
      | (with_reducible refine Wp.le (by omega) (by omega) (fun _ => ?_) (fun _ => ?_) <;> try (exfalso; omega))
      | (with_reducible refine Wp.eq (by omega) (by omega) (fun _ => ?_) (fun _ => ?_) <;> try (exfalso; omega))
      | (with_reducible refine Wp.ne (by omega) (by omega) (fun _ => ?_) (fun _ => ?_) <;> try (exfalso; omega))
      | with_reducible refine Wp.lt0 (by omega) ?_
      | with_reducible refine Wp.ge0 (by omega) ?_
      | (with_reducible refine Wp.bz (fun _ => ?_) (fun _ => ?_) <;> try contradiction)
      | (with_reducible refine Wp.bn (fun _ => ?_) (fun _ => ?_) <;> try contradiction)
      | (with_reducible refine Wp.br (fun _ => ?_) (fun _ => ?_) <;> try contradiction)
      | refine Wp.gik rfl (by assumption) (by with_reducible assumption) ?_
      | refine Wp.gi rfl (by assumption) ?_
      | refine Wp.gz rfl (by assumption) ?_
      | refine Wp.gr rfl (by assumption) (by assumption) ?_
      | refine Wp.gn rfl (by assumption) (by assumption) ?_
      | refine Wp.gl rfl (by assumption) ?_
      | refine Wp.addn rfl (by with_reducible rfl) (by with_reducible rfl) ?_
      | refine Wp.muln rfl (by with_reducible rfl) (by with_reducible rfl) ?_
      | refine Wp.subn rfl (by with_reducible rfl) (by with_reducible rfl) (by omega) ?_
      | (refine Wp.decn rfl rfl ?_; dsimp only [List.set])
      | (refine Wp.incn rfl rfl ?_; dsimp only [List.set])
      | (refine Wp.go rfl rfl ?_; try dsimp only [List.set])
      | refine Wp.pi rfl (by assumption) ?_
      | refine Wp.pr rfl (by assumption) ?_
      | refine Wp.pn rfl (by assumption) ?_
      | refine Wp.pl rfl (by assumption) ?_
      | refine Wp.aik rfl (by assumption) rfl (by first | with_reducible rfl | with_reducible assumption) (by omega) (by with_reducible assumption) ?_
      | refine Wp.aiN rfl (by assumption) rfl (by first | with_reducible rfl | with_reducible assumption) (by omega) ?_
      | refine Wp.siN rfl (by assumption) rfl (by first | with_reducible rfl | with_reducible assumption) (by omega) ?_
      | refine Wp.rt rfl rfl rfl rfl ?_
      | refine Wp.rz rfl rfl (by decide) ?_)
    rw [e]
    exact hq
  | succ n ih =>
    intro m hn hq
    have n2' : t_R M.2.2.2 i m 3 0 = some 4 := (t_R_o _ (Or.inl (by decide))).trans n2
    obtain ⟨b, b1, b2⟩ := hm (i + m + 1) (by omega)
    have b1' : t_R M.2.2.2 i m 4 (i + m + 1) = some b := (t_R_o _ (by omega)).trans b1
    repeat' ((with_reducible fail_if_success show Wp _ _ 42 _ _ _ _); (first
      | (with_reducible refine Wp.lt (by omega) (by omega) (fun _ => ?_) (fun _ => ?_) <;> try (exfalso; omega))
      | (with_reducible refine Wp.le (by omega) (by omega) (fun _ => ?_) (fun _ => ?_) <;> try (exfalso; omega))
      | (with_reducible refine Wp.eq (by omega) (by omega) (fun _ => ?_) (fun _ => ?_) <;> try (exfalso; omega))
      | (with_reducible refine Wp.ne (by omega) (by omega) (fun _ => ?_) (fun _ => ?_) <;> try (exfalso; omega))
      | with_reducible refine Wp.lt0 (by omega) ?_
      | with_reducible refine Wp.ge0 (by omega) ?_
      | (with_reducible refine Wp.bz (fun _ => ?_) (fun _ => ?_) <;> try contradiction)
      | (with_reducible refine Wp.bn (fun _ => ?_) (fun _ => ?_) <;> try contradiction)
      | (with_reducible refine Wp.br (fun _ => ?_) (fun _ => ?_) <;> try contradiction)
      | refine Wp.gik rfl (by assumption) (by with_reducible assumption) ?_
      | refine Wp.gi rfl (by assumption) ?_
      | refine Wp.gz rfl (by assumption) ?_
      | refine Wp.gr rfl (by assumption) (by assumption) ?_
      | refine Wp.gn rfl (by assumption) (by assumption) ?_
      | refine Wp.gl rfl (by assumption) ?_
      | refine Wp.addn rfl (by with_reducible rfl) (by with_reducible rfl) ?_
      | refine Wp.muln rfl (by with_reducible rfl) (by with_reducible rfl) ?_
      | refine Wp.subn rfl (by with_reducible rfl) (by with_reducible rfl) (by omega) ?_
      | (refine Wp.decn rfl rfl ?_; dsimp only [List.set])
      | (refine Wp.incn rfl rfl ?_; dsimp only [List.set])
      | (refine Wp.go rfl rfl ?_; try dsimp only [List.set])
      | refine Wp.pi rfl (by assumption) ?_
      | refine Wp.pr rfl (by assumption) ?_
      | refine Wp.pn rfl (by assumption) ?_
      | refine Wp.pl rfl (by assumption) ?_
      | refine Wp.aik rfl (by assumption) rfl (by first | with_reducible rfl | with_reducible assumption) (by omega) (by with_reducible assumption) ?_
      | refine Wp.aiN rfl (by assumption) rfl (by first | with_reducible rfl | with_reducible assumption) (by omega) ?_
      | refine Wp.siN rfl (by assumption) rfl (by first | with_reducible rfl | with_reducible assumption) (by omega) ?_
      | refine Wp.rt rfl rfl rfl rfl ?_
      | refine Wp.rz rfl rfl (by decide) ?_))
    refine Wp.aq rfl n3' (by decide) (by omega) (by decide) b1' ?_
    refine Wp.sq rfl n3' (by decide) b2 rfl (by omega) (by decide) ?_
    refine Wp.csM (M2 := (M.1, x_u M.2.1 3 1 (nI (w - 1)), M.2.2.1, t_R M.2.2.2 i (m + 1))) (by rw [← t_RS, ← b1]) ?_
    repeat' ((with_reducible fail_if_success show Wp _ _ 22 _ _ _ _); (first
      | (with_reducible refine Wp.lt (by omega) (by omega) (fun _ => ?_) (fun _ => ?_) <;> try (exfalso; omega))
      | (with_reducible refine Wp.le (by omega) (by omega) (fun _ => ?_) (fun _ => ?_) <;> try (exfalso; omega))
      | (with_reducible refine Wp.eq (by omega) (by omega) (fun _ => ?_) (fun _ => ?_) <;> try (exfalso; omega))
      | (with_reducible refine Wp.ne (by omega) (by omega) (fun _ => ?_) (fun _ => ?_) <;> try (exfalso; omega))
      | with_reducible refine Wp.lt0 (by omega) ?_
      | with_reducible refine Wp.ge0 (by omega) ?_
      | (with_reducible refine Wp.bz (fun _ => ?_) (fun _ => ?_) <;> try contradiction)
      | (with_reducible refine Wp.bn (fun _ => ?_) (fun _ => ?_) <;> try contradiction)
      | (with_reducible refine Wp.br (fun _ => ?_) (fun _ => ?_) <;> try contradiction)
      | refine Wp.gik rfl (by assumption) (by with_reducible assumption) ?_
      | refine Wp.gi rfl (by assumption) ?_
      | refine Wp.gz rfl (by assumption) ?_
      | refine Wp.gr rfl (by assumption) (by assumption) ?_
      | refine Wp.gn rfl (by assumption) (by assumption) ?_
      | refine Wp.gl rfl (by assumption) ?_
      | refine Wp.addn rfl (by with_reducible rfl) (by with_reducible rfl) ?_
      | refine Wp.muln rfl (by with_reducible rfl) (by with_reducible rfl) ?_
      | refine Wp.subn rfl (by with_reducible rfl) (by with_reducible rfl) (by omega) ?_
      | (refine Wp.decn rfl rfl ?_; dsimp only [List.set])
      | (refine Wp.incn rfl rfl ?_; dsimp only [List.set])
      | (refine Wp.go rfl rfl ?_; try dsimp only [List.set])
      | refine Wp.pi rfl (by assumption) ?_
      | refine Wp.pr rfl (by assumption) ?_
      | refine Wp.pn rfl (by assumption) ?_
      | refine Wp.pl rfl (by assumption) ?_
      | refine Wp.aik rfl (by assumption) rfl (by first | with_reducible rfl | with_reducible assumption) (by omega) (by with_reducible assumption) ?_
      | refine Wp.aiN rfl (by assumption) rfl (by first | with_reducible rfl | with_reducible assumption) (by omega) ?_
      | refine Wp.siN rfl (by assumption) rfl (by first | with_reducible rfl | with_reducible assumption) (by omega) ?_
      | refine Wp.rt rfl rfl rfl rfl ?_
      | refine Wp.rz rfl rfl (by decide) ?_))
    exact ih (m + 1) (by omega) hq
set_option maxHeartbeats 2000000 in
theorem k_take (d : Nat) {i : Nat} (h : Rp M C) (hi : i < c_w C) : Ev (d + 2) 24 M [.ref 3, .int (nI i)] (fun M' v => ∃ a, v = some (.ref a) ∧ mgA M' a (C.2.2.2.2 i) ∧ Rp M' (c_tk C i) ∧ Ext 0 M M') := by
  obtain ⟨w1, w2, w3⟩ := h.w
  obtain ⟨n1, n2, n3⟩ := h.2.2.1.2.1
  have n1' : M.1[3]? = some (false, 4, 2) := n1
  have hw : M.2.1 3 1 = nI (c_w C) := (h.1 3 1 (by omega)).trans w1
  obtain ⟨a, a1, a2⟩ := w3 i hi
  have ht := h.take hi
  refine Ev.of (ls := [some (.ref 3), some (.int (nI i)), none, none]) rfl rfl ?_
  repeat' ((with_reducible fail_if_success show Wp _ _ 2 _ _ _ _); (first
      | (with_reducible refine Wp.lt (by omega) (by omega) (fun _ => ?_) (fun _ => ?_) <;> try (exfalso; omega))
      | (with_reducible refine Wp.le (by omega) (by omega) (fun _ => ?_) (fun _ => ?_) <;> try (exfalso; omega))
      | (with_reducible refine Wp.eq (by omega) (by omega) (fun _ => ?_) (fun _ => ?_) <;> try (exfalso; omega))
      | (with_reducible refine Wp.ne (by omega) (by omega) (fun _ => ?_) (fun _ => ?_) <;> try (exfalso; omega))
      | with_reducible refine Wp.lt0 (by omega) ?_
      | with_reducible refine Wp.ge0 (by omega) ?_
      | (with_reducible refine Wp.bz (fun _ => ?_) (fun _ => ?_) <;> try contradiction)
      | (with_reducible refine Wp.bn (fun _ => ?_) (fun _ => ?_) <;> try contradiction)
      | (with_reducible refine Wp.br (fun _ => ?_) (fun _ => ?_) <;> try contradiction)
      | refine Wp.gik rfl (by assumption) (by with_reducible assumption) ?_
      | refine Wp.gi rfl (by assumption) ?_
      | refine Wp.gz rfl (by assumption) ?_
      | refine Wp.gr rfl (by assumption) (by assumption) ?_
      | refine Wp.gn rfl (by assumption) (by assumption) ?_
      | refine Wp.gl rfl (by assumption) ?_
      | refine Wp.addn rfl (by with_reducible rfl) (by with_reducible rfl) ?_
      | refine Wp.muln rfl (by with_reducible rfl) (by with_reducible rfl) ?_
      | refine Wp.subn rfl (by with_reducible rfl) (by with_reducible rfl) (by omega) ?_
      | (refine Wp.decn rfl rfl ?_; dsimp only [List.set])
      | (refine Wp.incn rfl rfl ?_; dsimp only [List.set])
      | (refine Wp.go rfl rfl ?_; try dsimp only [List.set])
      | refine Wp.pi rfl (by assumption) ?_
      | refine Wp.pr rfl (by assumption) ?_
      | refine Wp.pn rfl (by assumption) ?_
      | refine Wp.pl rfl (by assumption) ?_
      | refine Wp.aik rfl (by assumption) rfl (by first | with_reducible rfl | with_reducible assumption) (by omega) (by with_reducible assumption) ?_
      | refine Wp.aiN rfl (by assumption) rfl (by first | with_reducible rfl | with_reducible assumption) (by omega) ?_
      | refine Wp.siN rfl (by assumption) rfl (by first | with_reducible rfl | with_reducible assumption) (by omega) ?_
      | refine Wp.rt rfl rfl rfl rfl ?_
      | refine Wp.rz rfl rfl (by decide) ?_))
  refine Wp.V1i rfl n1' rfl (k_at d M.2.1 (Z := zO M) ⟨n1, n2, n3⟩ hw w2 hi a1).ev0 ?_
  repeat' ((with_reducible fail_if_success show Wp _ _ 22 _ _ _ _); (first
      | (with_reducible refine Wp.lt (by omega) (by omega) (fun _ => ?_) (fun _ => ?_) <;> try (exfalso; omega))
      | (with_reducible refine Wp.le (by omega) (by omega) (fun _ => ?_) (fun _ => ?_) <;> try (exfalso; omega))
      | (with_reducible refine Wp.eq (by omega) (by omega) (fun _ => ?_) (fun _ => ?_) <;> try (exfalso; omega))
      | (with_reducible refine Wp.ne (by omega) (by omega) (fun _ => ?_) (fun _ => ?_) <;> try (exfalso; omega))
      | with_reducible refine Wp.lt0 (by omega) ?_
      | with_reducible refine Wp.ge0 (by omega) ?_
      | (with_reducible refine Wp.bz (fun _ => ?_) (fun _ => ?_) <;> try contradiction)
      | (with_reducible refine Wp.bn (fun _ => ?_) (fun _ => ?_) <;> try contradiction)
      | (with_reducible refine Wp.br (fun _ => ?_) (fun _ => ?_) <;> try contradiction)
      | refine Wp.gik rfl (by assumption) (by with_reducible assumption) ?_
      | refine Wp.gi rfl (by assumption) ?_
      | refine Wp.gz rfl (by assumption) ?_
      | refine Wp.gr rfl (by assumption) (by assumption) ?_
      | refine Wp.gn rfl (by assumption) (by assumption) ?_
      | refine Wp.gl rfl (by assumption) ?_
      | refine Wp.addn rfl (by with_reducible rfl) (by with_reducible rfl) ?_
      | refine Wp.muln rfl (by with_reducible rfl) (by with_reducible rfl) ?_
      | refine Wp.subn rfl (by with_reducible rfl) (by with_reducible rfl) (by omega) ?_
      | (refine Wp.decn rfl rfl ?_; dsimp only [List.set])
      | (refine Wp.incn rfl rfl ?_; dsimp only [List.set])
      | (refine Wp.go rfl rfl ?_; try dsimp only [List.set])
      | refine Wp.pi rfl (by assumption) ?_
      | refine Wp.pr rfl (by assumption) ?_
      | refine Wp.pn rfl (by assumption) ?_
      | refine Wp.pl rfl (by assumption) ?_
      | refine Wp.aik rfl (by assumption) rfl (by first | with_reducible rfl | with_reducible assumption) (by omega) (by with_reducible assumption) ?_
      | refine Wp.aiN rfl (by assumption) rfl (by first | with_reducible rfl | with_reducible assumption) (by omega) ?_
      | refine Wp.siN rfl (by assumption) rfl (by first | with_reducible rfl | with_reducible assumption) (by omega) ?_
      | refine Wp.rt rfl rfl rfl rfl ?_
      | refine Wp.rz rfl rfl (by decide) ?_))
  refine Wp.csM (M2 := (M.1, x_u M.2.1 3 1 (nI (c_w C - 1)), M.2.2.1, t_R M.2.2.2 i 0)) (by rw [t_R0]) ?_
  exact k_take1 d h.2.2.1 w2 hi (fun j hj => by obtain ⟨b, b1, b2⟩ := w3 j hj; exact ⟨b, b1, b2.2.1⟩) _ (c_w C - 1 - i) 0 (by omega) ⟨a, rfl, a2.ext ht.2, ht.1, ht.2⟩
set_option maxHeartbeats 1000000 in
theorem k_take_n (d : Nat) {x : Int32} (h : Rp M C) (hx : x < 0 ∨ nI (c_w C) ≤ x) : Ev (d + 2) 24 M [.ref 3, .int x] (fun M' v => M' = M ∧ v = some .null) := by
  obtain ⟨w1, w2, w3⟩ := h.w
  obtain ⟨n1, n2, n3⟩ := h.2.2.1.2.1
  have n1' : M.1[3]? = some (false, 4, 2) := n1
  have hw : M.2.1 3 1 = nI (c_w C) := (h.1 3 1 (by omega)).trans w1
  refine Ev.of (ls := [some (.ref 3), some (.int x), none, none]) rfl rfl ?_
  repeat' ((with_reducible fail_if_success show Wp _ _ 2 _ _ _ _); (first
      | (with_reducible refine Wp.lt (by omega) (by omega) (fun _ => ?_) (fun _ => ?_) <;> try (exfalso; omega))
      | (with_reducible refine Wp.le (by omega) (by omega) (fun _ => ?_) (fun _ => ?_) <;> try (exfalso; omega))
      | (with_reducible refine Wp.eq (by omega) (by omega) (fun _ => ?_) (fun _ => ?_) <;> try (exfalso; omega))
      | (with_reducible refine Wp.ne (by omega) (by omega) (fun _ => ?_) (fun _ => ?_) <;> try (exfalso; omega))
      | with_reducible refine Wp.lt0 (by omega) ?_
      | with_reducible refine Wp.ge0 (by omega) ?_
      | (with_reducible refine Wp.bz (fun _ => ?_) (fun _ => ?_) <;> try contradiction)
      | (with_reducible refine Wp.bn (fun _ => ?_) (fun _ => ?_) <;> try contradiction)
      | (with_reducible refine Wp.br (fun _ => ?_) (fun _ => ?_) <;> try contradiction)
      | refine Wp.gik rfl (by assumption) (by with_reducible assumption) ?_
      | refine Wp.gi rfl (by assumption) ?_
      | refine Wp.gz rfl (by assumption) ?_
      | refine Wp.gr rfl (by assumption) (by assumption) ?_
      | refine Wp.gn rfl (by assumption) (by assumption) ?_
      | refine Wp.gl rfl (by assumption) ?_
      | refine Wp.addn rfl (by with_reducible rfl) (by with_reducible rfl) ?_
      | refine Wp.muln rfl (by with_reducible rfl) (by with_reducible rfl) ?_
      | refine Wp.subn rfl (by with_reducible rfl) (by with_reducible rfl) (by omega) ?_
      | (refine Wp.decn rfl rfl ?_; dsimp only [List.set])
      | (refine Wp.incn rfl rfl ?_; dsimp only [List.set])
      | (refine Wp.go rfl rfl ?_; try dsimp only [List.set])
      | refine Wp.pi rfl (by assumption) ?_
      | refine Wp.pr rfl (by assumption) ?_
      | refine Wp.pn rfl (by assumption) ?_
      | refine Wp.pl rfl (by assumption) ?_
      | refine Wp.aik rfl (by assumption) rfl (by first | with_reducible rfl | with_reducible assumption) (by omega) (by with_reducible assumption) ?_
      | refine Wp.aiN rfl (by assumption) rfl (by first | with_reducible rfl | with_reducible assumption) (by omega) ?_
      | refine Wp.siN rfl (by assumption) rfl (by first | with_reducible rfl | with_reducible assumption) (by omega) ?_
      | refine Wp.rt rfl rfl rfl rfl ?_
      | refine Wp.rz rfl rfl (by decide) ?_))
  refine Wp.V1i rfl n1' rfl (k_at_n d M.2.1 (Z := zO M) ⟨n1, n2, n3⟩ hw hx).ev0 ?_
  repeat' (first
      | (with_reducible refine Wp.lt (by omega) (by omega) (fun _ => ?_) (fun _ => ?_) <;> try (exfalso; omega))
      | (with_reducible refine Wp.le (by omega) (by omega) (fun _ => ?_) (fun _ => ?_) <;> try (exfalso; omega))
      | (with_reducible refine Wp.eq (by omega) (by omega) (fun _ => ?_) (fun _ => ?_) <;> try (exfalso; omega))
      | (with_reducible refine Wp.ne (by omega) (by omega) (fun _ => ?_) (fun _ => ?_) <;> try (exfalso; omega))
      | with_reducible refine Wp.lt0 (by omega) ?_
      | with_reducible refine Wp.ge0 (by omega) ?_
      | (with_reducible refine Wp.bz (fun _ => ?_) (fun _ => ?_) <;> try contradiction)
      | (with_reducible refine Wp.bn (fun _ => ?_) (fun _ => ?_) <;> try contradiction)
      | (with_reducible refine Wp.br (fun _ => ?_) (fun _ => ?_) <;> try contradiction)
      | refine Wp.gik rfl (by assumption) (by with_reducible assumption) ?_
      | refine Wp.gi rfl (by assumption) ?_
      | refine Wp.gz rfl (by assumption) ?_
      | refine Wp.gr rfl (by assumption) (by assumption) ?_
      | refine Wp.gn rfl (by assumption) (by assumption) ?_
      | refine Wp.gl rfl (by assumption) ?_
      | refine Wp.addn rfl (by with_reducible rfl) (by with_reducible rfl) ?_
      | refine Wp.muln rfl (by with_reducible rfl) (by with_reducible rfl) ?_
      | refine Wp.subn rfl (by with_reducible rfl) (by with_reducible rfl) (by omega) ?_
      | (refine Wp.decn rfl rfl ?_; dsimp only [List.set])
      | (refine Wp.incn rfl rfl ?_; dsimp only [List.set])
      | (refine Wp.go rfl rfl ?_; try dsimp only [List.set])
      | refine Wp.pi rfl (by assumption) ?_
      | refine Wp.pr rfl (by assumption) ?_
      | refine Wp.pn rfl (by assumption) ?_
      | refine Wp.pl rfl (by assumption) ?_
      | refine Wp.aik rfl (by assumption) rfl (by first | with_reducible rfl | with_reducible assumption) (by omega) (by with_reducible assumption) ?_
      | refine Wp.aiN rfl (by assumption) rfl (by first | with_reducible rfl | with_reducible assumption) (by omega) ?_
      | refine Wp.siN rfl (by assumption) rfl (by first | with_reducible rfl | with_reducible assumption) (by omega) ?_
      | refine Wp.rt rfl rfl rfl rfl ?_
      | refine Wp.rz rfl rfl (by decide) ?_)
  exact ⟨rfl, rfl⟩
end TAKE
