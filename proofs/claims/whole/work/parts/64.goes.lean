/-! the class: a replica goes on, strikes -/
def c_exs (C : xCC) (r : Nat) : Nat → xCC
  | 0 => C
  | n + 1 => if c_ch C.1 (9 + 13 * r + 4) (sl (C.2.1 r) + 1) = true then c_exs (c_exe C r (C.1 (9 + 13 * r + 5) (sl (C.2.1 r) + 1)).toNatClampNeg) r n else C
def c_win (C : xCC) (r e : Nat) : Nat → xCC
  | 0 => C
  | m + 1 => if c_du (c_win C r e m) r (e + 1 + m) = -1 then c_win C r e m else c_prp (c_win C r e m) r (e + 1 + m) (c_du (c_win C r e m) r (e + 1 + m))
def c_go (C : xCC) (r : Nat) : xCC := c_win (c_exs C r (24 - sl (C.2.1 r))) r (sl ((c_exs C r (24 - sl (C.2.1 r))).2.1 r)) 3
def c_rps (C : xCC) (r e : Nat) : Nat → xCC
  | 0 => C
  | m + 1 => if (c_ch (c_rps C r e m).1 (9 + 13 * r + 10) (e + 1 + m) && !c_ch (c_rps C r e m).1 (9 + 13 * r + 4) (e + 1 + m)) = true then c_sn (c_rps C r e m) r (s_mo ((c_rps C r e m).2.1 r) (e + 1 + m) &&& c_oth r &&& (c_cvf (c_rps C r e m).1 (9 + 13 * r + 6) (e + 1 + m) ^^^ -1)) (nI 3) ((c_rps C r e m).1 (9 + 13 * r + 6) 0) (nI (e + 1 + m)) (c_ca (c_rps C r e m).1 (9 + 13 * r + 10) (e + 1 + m)) 5 else c_rps C r e m
def c_hlp (C : xCC) (r : Nat) : Int32 := ((C.2.1 r).1 0 6 ||| (C.2.1 r).1 0 5 ||| (C.2.1 r).1 0 4) &&& c_oth r
def c_str (C : xCC) (r p : Nat) : xCC := if c_cmpg C.1 (9 + 13 * r) = true then c_rps (c_sn C r (c_hlp C r &&& (C.1 (9 + 13 * r + 6) 1 ^^^ -1)) (nI 1) (C.1 (9 + 13 * r + 6) 0) (nI 0) (nI 0) 5) r (sl (C.2.1 r)) 3
  else c_sn (c_cbg (x_u C.1 (9 + 13 * r) 4 (nI (f_bal p r))) (9 + 13 * r + 6) (9 + 13 * r + 1) (nI (f_bal p r)) (nI 1 <<< (nI r &&& 31)), C.2) r (c_hlp C r) (nI 1) (nI (f_bal p r)) (nI 0) (nI 0) 5
def kOK (C : xCC) (r : Nat) : Prop := ∀ s, 1 ≤ s → s ≤ 24 → C.1 (9 + 13 * r + 5) s = -1 ∨ ∃ q, q ≤ c_n C ∧ C.1 (9 + 13 * r + 5) s = nI q
theorem c_exe_1 (C : xCC) (r q : Nat) : (c_exe C r q).1 = C.1 := by
  rw [c_exe]
  split <;> rfl
theorem c_exe_p (C : xCC) (r q : Nat) : (c_exe C r q).2.1 = x_p C.2.1 r (c_exS C r q) := by
  rw [c_exe]
  split <;> rfl
theorem c_put_p (C : xCC) (m : xG) : (c_put C m).2.1 = C.2.1 ∧ (c_put C m).2.2.1 = C.2.2.1 ∧ (c_put C m).2.2.2.1 = C.2.2.2.1 := by
  rw [c_put]
  split <;> exact ⟨rfl, rfl, rfl⟩
theorem c_put_1 (C : xCC) (m : xG) {a i : Nat} (h : a ≠ 3) : (c_put C m).1 a i = C.1 a i := by
  rw [c_put]
  split
  · exact x_u_ne _ _ (by omega)
  · rfl
theorem c_sn_p (C : xCC) (r : Nat) (x kd b s c : Int32) : ∀ j, (c_sn C r x kd b s c j).2.1 = C.2.1 ∧ (c_sn C r x kd b s c j).2.2.1 = C.2.2.1 ∧ (c_sn C r x kd b s c j).2.2.2.1 = C.2.2.2.1 := by
  intro j
  induction j with
  | zero => exact ⟨rfl, rfl, rfl⟩
  | succ j ih =>
    rw [c_sn]
    split
    · obtain ⟨a1, a2, a3⟩ := c_put_p (c_sn C r x kd b s c j) (g_pl kd (nI r) (nI j) b s c)
      exact ⟨a1.trans ih.1, a2.trans ih.2.1, a3.trans ih.2.2⟩
    · exact ih
theorem c_sn_1 (C : xCC) (r : Nat) (x kd b s c : Int32) {a i : Nat} (h : a ≠ 3) : ∀ j, (c_sn C r x kd b s c j).1 a i = C.1 a i := by
  intro j
  induction j with
  | zero => rfl
  | succ j ih =>
    rw [c_sn]
    split
    · exact (c_put_1 _ _ h).trans ih
    · exact ih
theorem c_prp_p (C : xCC) (r s : Nat) (c : Int32) : (c_prp C r s c).2.1 = C.2.1 := (c_sn_p _ _ _ _ _ _ _ 5).1
theorem c_win_p (C : xCC) (r e : Nat) : ∀ m, (c_win C r e m).2.1 = C.2.1 := by
  intro m
  induction m with
  | zero => rfl
  | succ m ih =>
    rw [c_win]
    split
    · exact ih
    · exact (c_prp_p _ _ _ _).trans ih
theorem c_rps_p (C : xCC) (r e : Nat) : ∀ m, (c_rps C r e m).2.1 = C.2.1 := by
  intro m
  induction m with
  | zero => rfl
  | succ m ih =>
    rw [c_rps]
    split
    · exact (c_sn_p _ _ _ _ _ _ _ 5).1.trans ih
    · exact ih
section GOES
variable {M : xM} {C : xCC} {r : Nat} {s : Nat} {S : xS}
theorem c_ch_g {I J : xI} (h : ∀ a i, a < 74 → I a i = J a i) {v : Nat} (hv : v + 1 < 74) : c_ch I v s = c_ch J v s := by
  simp (disch := omega) only [c_ch, h]
theorem c_ca_g {I J : xI} (h : ∀ a i, a < 74 → I a i = J a i) {v : Nat} (hv : v + 1 < 74) : c_ca I v s = c_ca J v s := by
  simp (disch := omega) only [c_ca, h]
theorem w_chas (d : Nat) (h : Rp M C) {v : Nat} (hv : v + 1 < 74) (hk : cmK (zO M) v) (hs : s < 2 ^ 31) : Ev (d + 2) 13 M [.ref v, .int (nI s)] (fun M' w => M' = M ∧ w = some (.int (bI (c_ch C.1 v s)))) := by
  have k := (k_chas d M.2.1 (Z := zO M) hs hk).ev0
  rw [c_ch_g h.1 hv] at k
  exact k
theorem w_cat (d : Nat) (h : Rp M C) {v : Nat} (hv : v + 1 < 74) (hk : cmK (zO M) v) (hs : s < 2 ^ 31) : Ev (d + 2) 12 M [.ref v, .int (nI s)] (fun M' w => M' = M ∧ w = some (.int (c_ca C.1 v s))) := by
  have k := (k_cat d M.2.1 (Z := zO M) hs hk).ev0
  rw [c_ca_g h.1 hv] at k
  exact k
theorem kOK.at (h : kOK C r) (h1 : c_ch C.1 (9 + 13 * r + 4) s = true) : ∃ q, q ≤ c_n C ∧ c_ca C.1 (9 + 13 * r + 4) s = nI q ∧ C.1 (9 + 13 * r + 5) s = nI q := by
  rw [c_ch, Bool.and_eq_true, decide_eq_true_eq] at h1
  obtain ⟨h2, h3⟩ := h1
  rcases h s (c_sl_t.mp h2).1 (c_sl_t.mp h2).2 with h4 | ⟨q, h4, h5⟩
  · exact absurd h4 h3
  · exact ⟨q, h4, by rw [c_ca, if_pos h2]; exact h5, h5⟩
set_option maxHeartbeats 4000000 in
theorem k_go1 (d : Nat) (hr : r < 5) (Q : xM → Option Value → Prop) : ∀ (n k : Nat) (M1 : xM) (C1 : xCC), Rp M1 C1 → Ext k M M1 → k + 3 * n ≤ 72 → sl (C1.2.1 r) + n = 24 → kOK C1 r → (∀ M' x, Rp M' (c_exs C1 r n) → Ext 72 M M' → Wp (d + 4) 48 45 [some (.ref (9 + 13 * r)), some x, none, none] [] M' Q) → Wp (d + 4) 48 10 [some (.ref (9 + 13 * r)), some (.int (nI (sl (C1.2.1 r) + 1))), none, none] [] M1 Q := by
  intro n
  induction n with
  | zero =>
    intro k M1 C1 h he hb hn hk hq
    repeat' ((with_reducible fail_if_success show Wp _ _ 45 _ _ _ _); (first
      | (with_reducible refine Wp.lt (by omega) (by omega) (fun _ => ?_) (fun _ => ?_) <;> try (exfalso; omega))
      | (with_reducible refine Wp.le (by omega) (by omega) (fun _ => ?_) (fun _ => ?_) <;> try (exfalso; omega))
      | (with_reducible refine Wp.eq (by omega) (by omega) (fun _ => ?_) (fun _ => ?_) <;> try (exfalso; omega))
      | (with_reducible refine Wp.ne (by omega) (by omega) (fun _ => ?_) (fun _ => ?_) <;> try (exfalso; omega))
      | with_reducible refine Wp.lt0 (by omega) ?_
      | with_reducible refine Wp.ge0 (by omega) ?_
      | (with_reducible refine Wp.bz (fun _ => ?_) (fun _ => ?_) <;> try contradiction)
      | (with_reducible refine Wp.bn (fun _ => ?_) (fun _ => ?_) <;> try contradiction)
      | (with_reducible refine Wp.br (fun _ => ?_) (fun _ => ?_) <;> try contradiction)
      | refine Wp.gik rfl (by assumption) (by with_reducible assumption) ?_
      | refine Wp.gi rfl (by assumption) ?_
      | refine Wp.gz rfl (by assumption) ?_
      | refine Wp.gr rfl (by assumption) (by assumption) ?_
      | refine Wp.gn rfl (by assumption) (by assumption) ?_
      | refine Wp.gl rfl (by assumption) ?_
      | refine Wp.addn rfl (by with_reducible rfl) (by with_reducible rfl) ?_
      | refine Wp.muln rfl (by with_reducible rfl) (by with_reducible rfl) ?_
      | refine Wp.subn rfl (by with_reducible rfl) (by with_reducible rfl) (by omega) ?_
      | (refine Wp.decn rfl rfl ?_; dsimp only [List.set])
      | (refine Wp.incn rfl rfl ?_; dsimp only [List.set])
      | (refine Wp.go rfl rfl ?_; try dsimp only [List.set])
      | refine Wp.pi rfl (by assumption) ?_
      | refine Wp.pr rfl (by assumption) ?_
      | refine Wp.pn rfl (by assumption) ?_
      | refine Wp.pl rfl (by assumption) ?_
      | refine Wp.aik rfl (by assumption) rfl (by first | with_reducible rfl | with_reducible assumption) (by omega) (by with_reducible assumption) ?_
      | refine Wp.aiN rfl (by assumption) rfl (by first | with_reducible rfl | with_reducible assumption) (by omega) ?_
      | refine Wp.siN rfl (by assumption) rfl (by first | with_reducible rfl | with_reducible assumption) (by omega) ?_
      | refine Wp.rt rfl rfl rfl rfl ?_
      | refine Wp.rz rfl rfl (by decide) ?_))
    exact hq M1 _ h (he.up (by omega))
  | succ n ih =>
    intro k M1 C1 h he hb hn hk hq
    obtain ⟨p1, p2, p3, p4, p5, p6⟩ := h.f hr
    obtain ⟨g1, g2, g3, g4, g5, g6, g7⟩ := h.g hr
    repeat' ((with_reducible fail_if_success show Wp _ _ 21 _ _ _ _); (first
      | (with_reducible refine Wp.lt (by omega) (by omega) (fun _ => ?_) (fun _ => ?_) <;> try (exfalso; omega))
      | (with_reducible refine Wp.le (by omega) (by omega) (fun _ => ?_) (fun _ => ?_) <;> try (exfalso; omega))
      | (with_reducible refine Wp.eq (by omega) (by omega) (fun _ => ?_) (fun _ => ?_) <;> try (exfalso; omega))
      | (with_reducible refine Wp.ne (by omega) (by omega) (fun _ => ?_) (fun _ => ?_) <;> try (exfalso; omega))
      | with_reducible refine Wp.lt0 (by omega) ?_
      | with_reducible refine Wp.ge0 (by omega) ?_
      | (with_reducible refine Wp.bz (fun _ => ?_) (fun _ => ?_) <;> try contradiction)
      | (with_reducible refine Wp.bn (fun _ => ?_) (fun _ => ?_) <;> try contradiction)
      | (with_reducible refine Wp.br (fun _ => ?_) (fun _ => ?_) <;> try contradiction)
      | refine Wp.gik rfl (by assumption) (by with_reducible assumption) ?_
      | refine Wp.gi rfl (by assumption) ?_
      | refine Wp.gz rfl (by assumption) ?_
      | refine Wp.gr rfl (by assumption) (by assumption) ?_
      | refine Wp.gn rfl (by assumption) (by assumption) ?_
      | refine Wp.gl rfl (by assumption) ?_
      | refine Wp.addn rfl (by with_reducible rfl) (by with_reducible rfl) ?_
      | refine Wp.muln rfl (by with_reducible rfl) (by with_reducible rfl) ?_
      | refine Wp.subn rfl (by with_reducible rfl) (by with_reducible rfl) (by omega) ?_
      | (refine Wp.decn rfl rfl ?_; dsimp only [List.set])
      | (refine Wp.incn rfl rfl ?_; dsimp only [List.set])
      | (refine Wp.go rfl rfl ?_; try dsimp only [List.set])
      | refine Wp.pi rfl (by assumption) ?_
      | refine Wp.pr rfl (by assumption) ?_
      | refine Wp.pn rfl (by assumption) ?_
      | refine Wp.pl rfl (by assumption) ?_
      | refine Wp.aik rfl (by assumption) rfl (by first | with_reducible rfl | with_reducible assumption) (by omega) (by with_reducible assumption) ?_
      | refine Wp.aiN rfl (by assumption) rfl (by first | with_reducible rfl | with_reducible assumption) (by omega) ?_
      | refine Wp.siN rfl (by assumption) rfl (by first | with_reducible rfl | with_reducible assumption) (by omega) ?_
      | refine Wp.rt rfl rfl rfl rfl ?_
      | refine Wp.rz rfl rfl (by decide) ?_))
    refine Wp.V1i rfl g2 rfl (w_chas (d + 2) h (by omega) (h.kK hr) (by omega)) ?_
    iterate 2 (first
      | (with_reducible refine Wp.lt (by omega) (by omega) (fun _ => ?_) (fun _ => ?_) <;> try (exfalso; omega))
      | (with_reducible refine Wp.le (by omega) (by omega) (fun _ => ?_) (fun _ => ?_) <;> try (exfalso; omega))
      | (with_reducible refine Wp.eq (by omega) (by omega) (fun _ => ?_) (fun _ => ?_) <;> try (exfalso; omega))
      | (with_reducible refine Wp.ne (by omega) (by omega) (fun _ => ?_) (fun _ => ?_) <;> try (exfalso; omega))
      | with_reducible refine Wp.lt0 (by omega) ?_
      | with_reducible refine Wp.ge0 (by omega) ?_
      | (with_reducible refine Wp.bz (fun _ => ?_) (fun _ => ?_) <;> try contradiction)
      | (with_reducible refine Wp.bn (fun _ => ?_) (fun _ => ?_) <;> try contradiction)
      | (with_reducible refine Wp.br (fun _ => ?_) (fun _ => ?_) <;> try contradiction)
      | refine Wp.gik rfl (by assumption) (by with_reducible assumption) ?_
      | refine Wp.gi rfl (by assumption) ?_
      | refine Wp.gz rfl (by assumption) ?_
      | refine Wp.gr rfl (by assumption) (by assumption) ?_
      | refine Wp.gn rfl (by assumption) (by assumption) ?_
      | refine Wp.gl rfl (by assumption) ?_
      | refine Wp.addn rfl (by with_reducible rfl) (by with_reducible rfl) ?_
      | refine Wp.muln rfl (by with_reducible rfl) (by with_reducible rfl) ?_
      | refine Wp.subn rfl (by with_reducible rfl) (by with_reducible rfl) (by omega) ?_
      | (refine Wp.decn rfl rfl ?_; dsimp only [List.set])
      | (refine Wp.incn rfl rfl ?_; dsimp only [List.set])
      | (refine Wp.go rfl rfl ?_; try dsimp only [List.set])
      | refine Wp.pi rfl (by assumption) ?_
      | refine Wp.pr rfl (by assumption) ?_
      | refine Wp.pn rfl (by assumption) ?_
      | refine Wp.pl rfl (by assumption) ?_
      | refine Wp.aik rfl (by assumption) rfl (by first | with_reducible rfl | with_reducible assumption) (by omega) (by with_reducible assumption) ?_
      | refine Wp.aiN rfl (by assumption) rfl (by first | with_reducible rfl | with_reducible assumption) (by omega) ?_
      | refine Wp.siN rfl (by assumption) rfl (by first | with_reducible rfl | with_reducible assumption) (by omega) ?_
      | refine Wp.rt rfl rfl rfl rfl ?_
      | refine Wp.rz rfl rfl (by decide) ?_)
    · rename_i hc
      refine hq M1 _ ?_ (he.up (by omega))
      rw [c_exs, if_neg (by rw [hc]; decide)]
      exact h
    · rename_i hc
      obtain ⟨q, q1, q2, q3⟩ := hk.at hc
      rw [c_exs, if_pos hc, q3, nI_clamp (by have := h.n.2.1; omega)] at hq
      repeat' ((with_reducible fail_if_success show Wp _ _ 33 _ _ _ _); (first
      | (with_reducible refine Wp.lt (by omega) (by omega) (fun _ => ?_) (fun _ => ?_) <;> try (exfalso; omega))
      | (with_reducible refine Wp.le (by omega) (by omega) (fun _ => ?_) (fun _ => ?_) <;> try (exfalso; omega))
      | (with_reducible refine Wp.eq (by omega) (by omega) (fun _ => ?_) (fun _ => ?_) <;> try (exfalso; omega))
      | (with_reducible refine Wp.ne (by omega) (by omega) (fun _ => ?_) (fun _ => ?_) <;> try (exfalso; omega))
      | with_reducible refine Wp.lt0 (by omega) ?_
      | with_reducible refine Wp.ge0 (by omega) ?_
      | (with_reducible refine Wp.bz (fun _ => ?_) (fun _ => ?_) <;> try contradiction)
      | (with_reducible refine Wp.bn (fun _ => ?_) (fun _ => ?_) <;> try contradiction)
      | (with_reducible refine Wp.br (fun _ => ?_) (fun _ => ?_) <;> try contradiction)
      | refine Wp.gik rfl (by assumption) (by with_reducible assumption) ?_
      | refine Wp.gi rfl (by assumption) ?_
      | refine Wp.gz rfl (by assumption) ?_
      | refine Wp.gr rfl (by assumption) (by assumption) ?_
      | refine Wp.gn rfl (by assumption) (by assumption) ?_
      | refine Wp.gl rfl (by assumption) ?_
      | refine Wp.addn rfl (by with_reducible rfl) (by with_reducible rfl) ?_
      | refine Wp.muln rfl (by with_reducible rfl) (by with_reducible rfl) ?_
      | refine Wp.subn rfl (by with_reducible rfl) (by with_reducible rfl) (by omega) ?_
      | (refine Wp.decn rfl rfl ?_; dsimp only [List.set])
      | (refine Wp.incn rfl rfl ?_; dsimp only [List.set])
      | (refine Wp.go rfl rfl ?_; try dsimp only [List.set])
      | refine Wp.pi rfl (by assumption) ?_
      | refine Wp.pr rfl (by assumption) ?_
      | refine Wp.pn rfl (by assumption) ?_
      | refine Wp.pl rfl (by assumption) ?_
      | refine Wp.aik rfl (by assumption) rfl (by first | with_reducible rfl | with_reducible assumption) (by omega) (by with_reducible assumption) ?_
      | refine Wp.aiN rfl (by assumption) rfl (by first | with_reducible rfl | with_reducible assumption) (by omega) ?_
      | refine Wp.siN rfl (by assumption) rfl (by first | with_reducible rfl | with_reducible assumption) (by omega) ?_
      | refine Wp.rt rfl rfl rfl rfl ?_
      | refine Wp.rz rfl rfl (by decide) ?_))
      refine Wp.V1i rfl g2 rfl (w_cat (d + 2) h (by omega) (h.kK hr) (by omega)) ?_
      rw [q2]
      refine Wp.V1 rfl p1 rfl (k_exe d h hr q1 (by omega)) (fun M' v hq' => ?_)
      obtain ⟨k1, k2, rfl⟩ := hq'
      show Wp (d + 4) 48 39 _ [] M' Q
      have e1 : sl ((c_exe C1 r q).2.1 r) = sl (C1.2.1 r) + 1 := by
        rw [c_exe_p, x_p_eq]
        exact c_exe_ok h hr q1 (by omega)
      have key := ih (k + 3) M' (c_exe C1 r q) k1 (he.trans k2) (by omega) (by omega) (by
        rw [kOK, c_n, c_exe_1]
        exact hk) hq
      rw [e1] at key
      repeat' ((with_reducible fail_if_success show Wp _ _ 10 _ _ _ _); (first
      | (with_reducible refine Wp.lt (by omega) (by omega) (fun _ => ?_) (fun _ => ?_) <;> try (exfalso; omega))
      | (with_reducible refine Wp.le (by omega) (by omega) (fun _ => ?_) (fun _ => ?_) <;> try (exfalso; omega))
      | (with_reducible refine Wp.eq (by omega) (by omega) (fun _ => ?_) (fun _ => ?_) <;> try (exfalso; omega))
      | (with_reducible refine Wp.ne (by omega) (by omega) (fun _ => ?_) (fun _ => ?_) <;> try (exfalso; omega))
      | with_reducible refine Wp.lt0 (by omega) ?_
      | with_reducible refine Wp.ge0 (by omega) ?_
      | (with_reducible refine Wp.bz (fun _ => ?_) (fun _ => ?_) <;> try contradiction)
      | (with_reducible refine Wp.bn (fun _ => ?_) (fun _ => ?_) <;> try contradiction)
      | (with_reducible refine Wp.br (fun _ => ?_) (fun _ => ?_) <;> try contradiction)
      | refine Wp.gik rfl (by assumption) (by with_reducible assumption) ?_
      | refine Wp.gi rfl (by assumption) ?_
      | refine Wp.gz rfl (by assumption) ?_
      | refine Wp.gr rfl (by assumption) (by assumption) ?_
      | refine Wp.gn rfl (by assumption) (by assumption) ?_
      | refine Wp.gl rfl (by assumption) ?_
      | refine Wp.addn rfl (by with_reducible rfl) (by with_reducible rfl) ?_
      | refine Wp.muln rfl (by with_reducible rfl) (by with_reducible rfl) ?_
      | refine Wp.subn rfl (by with_reducible rfl) (by with_reducible rfl) (by omega) ?_
      | (refine Wp.decn rfl rfl ?_; dsimp only [List.set])
      | (refine Wp.incn rfl rfl ?_; dsimp only [List.set])
      | (refine Wp.go rfl rfl ?_; try dsimp only [List.set])
      | refine Wp.pi rfl (by assumption) ?_
      | refine Wp.pr rfl (by assumption) ?_
      | refine Wp.pn rfl (by assumption) ?_
      | refine Wp.pl rfl (by assumption) ?_
      | refine Wp.aik rfl (by assumption) rfl (by first | with_reducible rfl | with_reducible assumption) (by omega) (by with_reducible assumption) ?_
      | refine Wp.aiN rfl (by assumption) rfl (by first | with_reducible rfl | with_reducible assumption) (by omega) ?_
      | refine Wp.siN rfl (by assumption) rfl (by first | with_reducible rfl | with_reducible assumption) (by omega) ?_
      | refine Wp.rt rfl rfl rfl rfl ?_
      | refine Wp.rz rfl rfl (by decide) ?_))
      exact key
set_option maxHeartbeats 4000000 in
theorem k_go2 (d : Nat) (hr : r < 5) {e : Nat} (he24 : e ≤ 24) (Q : xM → Option Value → Prop) (hC : sl (C.2.1 r) = e) : ∀ (n m : Nat) (M1 : xM) (x3 : Option Value), m + n = 3 → Rp M1 (c_win C r e m) → Ext (72 + 5 * m) M M1 → (∀ M', Rp M' (c_win C r e 3) → Ext 87 M M' → Q M' none) → Wp (d + 4) 48 65 [some (.ref (9 + 13 * r)), some (.int (nI (e + 3))), some (.int (nI (e + 1 + m))), x3] [] M1 Q := by
  intro n
  induction n with
  | zero =>
    intro m M1 x3 hm h he hq
    have e3 : m = 3 := by omega
    subst e3
    repeat' (first
      | (with_reducible refine Wp.lt (by omega) (by omega) (fun _ => ?_) (fun _ => ?_) <;> try (exfalso; omega))
      | (with_reducible refine Wp.le (by omega) (by omega) (fun _ => ?_) (fun _ => ?_) <;> try (exfalso; omega))
      | (with_reducible refine Wp.eq (by omega) (by omega) (fun _ => ?_) (fun _ => ?_) <;> try (exfalso; omega))
      | (with_reducible refine Wp.ne (by omega) (by omega) (fun _ => ?_) (fun _ => ?_) <;> try (exfalso; omega))
      | with_reducible refine Wp.lt0 (by omega) ?_
      | with_reducible refine Wp.ge0 (by omega) ?_
      | (with_reducible refine Wp.bz (fun _ => ?_) (fun _ => ?_) <;> try contradiction)
      | (with_reducible refine Wp.bn (fun _ => ?_) (fun _ => ?_) <;> try contradiction)
      | (with_reducible refine Wp.br (fun _ => ?_) (fun _ => ?_) <;> try contradiction)
      | refine Wp.gik rfl (by assumption) (by with_reducible assumption) ?_
      | refine Wp.gi rfl (by assumption) ?_
      | refine Wp.gz rfl (by assumption) ?_
      | refine Wp.gr rfl (by assumption) (by assumption) ?_
      | refine Wp.gn rfl (by assumption) (by assumption) ?_
      | refine Wp.gl rfl (by assumption) ?_
      | refine Wp.addn rfl (by with_reducible rfl) (by with_reducible rfl) ?_
      | refine Wp.muln rfl (by with_reducible rfl) (by with_reducible rfl) ?_
      | refine Wp.subn rfl (by with_reducible rfl) (by with_reducible rfl) (by omega) ?_
      | (refine Wp.decn rfl rfl ?_; dsimp only [List.set])
      | (refine Wp.incn rfl rfl ?_; dsimp only [List.set])
      | (refine Wp.go rfl rfl ?_; try dsimp only [List.set])
      | refine Wp.pi rfl (by assumption) ?_
      | refine Wp.pr rfl (by assumption) ?_
      | refine Wp.pn rfl (by assumption) ?_
      | refine Wp.pl rfl (by assumption) ?_
      | refine Wp.aik rfl (by assumption) rfl (by first | with_reducible rfl | with_reducible assumption) (by omega) (by with_reducible assumption) ?_
      | refine Wp.aiN rfl (by assumption) rfl (by first | with_reducible rfl | with_reducible assumption) (by omega) ?_
      | refine Wp.siN rfl (by assumption) rfl (by first | with_reducible rfl | with_reducible assumption) (by omega) ?_
      | refine Wp.rt rfl rfl rfl rfl ?_
      | refine Wp.rz rfl rfl (by decide) ?_)
    exact hq M1 h he
  | succ n ih =>
    intro m M1 x3 hm h he hq
    obtain ⟨p1, p2, p3, p4, p5, p6⟩ := h.f hr
    have hs : sl ((c_win C r e m).2.1 r) < e + 1 + m := by rw [c_win_p, hC]; omega
    have key := fun M2 x => ih (m + 1) M2 x (by omega)
    simp only [c_win] at key
    repeat' ((with_reducible fail_if_success show Wp _ _ 72 _ _ _ _); (first
      | (with_reducible refine Wp.lt (by omega) (by omega) (fun _ => ?_) (fun _ => ?_) <;> try (exfalso; omega))
      | (with_reducible refine Wp.le (by omega) (by omega) (fun _ => ?_) (fun _ => ?_) <;> try (exfalso; omega))
      | (with_reducible refine Wp.eq (by omega) (by omega) (fun _ => ?_) (fun _ => ?_) <;> try (exfalso; omega))
      | (with_reducible refine Wp.ne (by omega) (by omega) (fun _ => ?_) (fun _ => ?_) <;> try (exfalso; omega))
      | with_reducible refine Wp.lt0 (by omega) ?_
      | with_reducible refine Wp.ge0 (by omega) ?_
      | (with_reducible refine Wp.bz (fun _ => ?_) (fun _ => ?_) <;> try contradiction)
      | (with_reducible refine Wp.bn (fun _ => ?_) (fun _ => ?_) <;> try contradiction)
      | (with_reducible refine Wp.br (fun _ => ?_) (fun _ => ?_) <;> try contradiction)
      | refine Wp.gik rfl (by assumption) (by with_reducible assumption) ?_
      | refine Wp.gi rfl (by assumption) ?_
      | refine Wp.gz rfl (by assumption) ?_
      | refine Wp.gr rfl (by assumption) (by assumption) ?_
      | refine Wp.gn rfl (by assumption) (by assumption) ?_
      | refine Wp.gl rfl (by assumption) ?_
      | refine Wp.addn rfl (by with_reducible rfl) (by with_reducible rfl) ?_
      | refine Wp.muln rfl (by with_reducible rfl) (by with_reducible rfl) ?_
      | refine Wp.subn rfl (by with_reducible rfl) (by with_reducible rfl) (by omega) ?_
      | (refine Wp.decn rfl rfl ?_; dsimp only [List.set])
      | (refine Wp.incn rfl rfl ?_; dsimp only [List.set])
      | (refine Wp.go rfl rfl ?_; try dsimp only [List.set])
      | refine Wp.pi rfl (by assumption) ?_
      | refine Wp.pr rfl (by assumption) ?_
      | refine Wp.pn rfl (by assumption) ?_
      | refine Wp.pl rfl (by assumption) ?_
      | refine Wp.aik rfl (by assumption) rfl (by first | with_reducible rfl | with_reducible assumption) (by omega) (by with_reducible assumption) ?_
      | refine Wp.aiN rfl (by assumption) rfl (by first | with_reducible rfl | with_reducible assumption) (by omega) ?_
      | refine Wp.siN rfl (by assumption) rfl (by first | with_reducible rfl | with_reducible assumption) (by omega) ?_
      | refine Wp.rt rfl rfl rfl rfl ?_
      | refine Wp.rz rfl rfl (by decide) ?_))
    refine Wp.V1i rfl p1 rfl (w_due d h hr hs (by omega)) ?_
    repeat' ((with_reducible fail_if_success show Wp _ _ 78 _ _ _ _); (first
      | (with_reducible refine Wp.lt (by omega) (by omega) (fun _ => ?_) (fun _ => ?_) <;> try (exfalso; omega))
      | (with_reducible refine Wp.le (by omega) (by omega) (fun _ => ?_) (fun _ => ?_) <;> try (exfalso; omega))
      | (with_reducible refine Wp.eq (by omega) (by omega) (fun _ => ?_) (fun _ => ?_) <;> try (exfalso; omega))
      | (with_reducible refine Wp.ne (by omega) (by omega) (fun _ => ?_) (fun _ => ?_) <;> try (exfalso; omega))
      | with_reducible refine Wp.lt0 (by omega) ?_
      | with_reducible refine Wp.ge0 (by omega) ?_
      | (with_reducible refine Wp.bz (fun _ => ?_) (fun _ => ?_) <;> try contradiction)
      | (with_reducible refine Wp.bn (fun _ => ?_) (fun _ => ?_) <;> try contradiction)
      | (with_reducible refine Wp.br (fun _ => ?_) (fun _ => ?_) <;> try contradiction)
      | refine Wp.gik rfl (by assumption) (by with_reducible assumption) ?_
      | refine Wp.gi rfl (by assumption) ?_
      | refine Wp.gz rfl (by assumption) ?_
      | refine Wp.gr rfl (by assumption) (by assumption) ?_
      | refine Wp.gn rfl (by assumption) (by assumption) ?_
      | refine Wp.gl rfl (by assumption) ?_
      | refine Wp.addn rfl (by with_reducible rfl) (by with_reducible rfl) ?_
      | refine Wp.muln rfl (by with_reducible rfl) (by with_reducible rfl) ?_
      | refine Wp.subn rfl (by with_reducible rfl) (by with_reducible rfl) (by omega) ?_
      | (refine Wp.decn rfl rfl ?_; dsimp only [List.set])
      | (refine Wp.incn rfl rfl ?_; dsimp only [List.set])
      | (refine Wp.go rfl rfl ?_; try dsimp only [List.set])
      | refine Wp.pi rfl (by assumption) ?_
      | refine Wp.pr rfl (by assumption) ?_
      | refine Wp.pn rfl (by assumption) ?_
      | refine Wp.pl rfl (by assumption) ?_
      | refine Wp.aik rfl (by assumption) rfl (by first | with_reducible rfl | with_reducible assumption) (by omega) (by with_reducible assumption) ?_
      | refine Wp.aiN rfl (by assumption) rfl (by first | with_reducible rfl | with_reducible assumption) (by omega) ?_
      | refine Wp.siN rfl (by assumption) rfl (by first | with_reducible rfl | with_reducible assumption) (by omega) ?_
      | refine Wp.rt rfl rfl rfl rfl ?_
      | refine Wp.rz rfl rfl (by decide) ?_))
    iterate 1 (first
      | (with_reducible refine Wp.lt (by omega) (by omega) (fun _ => ?_) (fun _ => ?_) <;> try (exfalso; omega))
      | (with_reducible refine Wp.le (by omega) (by omega) (fun _ => ?_) (fun _ => ?_) <;> try (exfalso; omega))
      | (with_reducible refine Wp.eq (by omega) (by omega) (fun _ => ?_) (fun _ => ?_) <;> try (exfalso; omega))
      | (with_reducible refine Wp.ne (by omega) (by omega) (fun _ => ?_) (fun _ => ?_) <;> try (exfalso; omega))
      | with_reducible refine Wp.lt0 (by omega) ?_
      | with_reducible refine Wp.ge0 (by omega) ?_
      | (with_reducible refine Wp.bz (fun _ => ?_) (fun _ => ?_) <;> try contradiction)
      | (with_reducible refine Wp.bn (fun _ => ?_) (fun _ => ?_) <;> try contradiction)
      | (with_reducible refine Wp.br (fun _ => ?_) (fun _ => ?_) <;> try contradiction)
      | refine Wp.gik rfl (by assumption) (by with_reducible assumption) ?_
      | refine Wp.gi rfl (by assumption) ?_
      | refine Wp.gz rfl (by assumption) ?_
      | refine Wp.gr rfl (by assumption) (by assumption) ?_
      | refine Wp.gn rfl (by assumption) (by assumption) ?_
      | refine Wp.gl rfl (by assumption) ?_
      | refine Wp.addn rfl (by with_reducible rfl) (by with_reducible rfl) ?_
      | refine Wp.muln rfl (by with_reducible rfl) (by with_reducible rfl) ?_
      | refine Wp.subn rfl (by with_reducible rfl) (by with_reducible rfl) (by omega) ?_
      | (refine Wp.decn rfl rfl ?_; dsimp only [List.set])
      | (refine Wp.incn rfl rfl ?_; dsimp only [List.set])
      | (refine Wp.go rfl rfl ?_; try dsimp only [List.set])
      | refine Wp.pi rfl (by assumption) ?_
      | refine Wp.pr rfl (by assumption) ?_
      | refine Wp.pn rfl (by assumption) ?_
      | refine Wp.pl rfl (by assumption) ?_
      | refine Wp.aik rfl (by assumption) rfl (by first | with_reducible rfl | with_reducible assumption) (by omega) (by with_reducible assumption) ?_
      | refine Wp.aiN rfl (by assumption) rfl (by first | with_reducible rfl | with_reducible assumption) (by omega) ?_
      | refine Wp.siN rfl (by assumption) rfl (by first | with_reducible rfl | with_reducible assumption) (by omega) ?_
      | refine Wp.rt rfl rfl rfl rfl ?_
      | refine Wp.rz rfl rfl (by decide) ?_)
    refine Wp.br (fun hc => ?_) (fun hc => ?_)
    · rw [if_pos hc] at key
      repeat' ((with_reducible fail_if_success show Wp _ _ 65 _ _ _ _); (first
      | (with_reducible refine Wp.lt (by omega) (by omega) (fun _ => ?_) (fun _ => ?_) <;> try (exfalso; omega))
      | (with_reducible refine Wp.le (by omega) (by omega) (fun _ => ?_) (fun _ => ?_) <;> try (exfalso; omega))
      | (with_reducible refine Wp.eq (by omega) (by omega) (fun _ => ?_) (fun _ => ?_) <;> try (exfalso; omega))
      | (with_reducible refine Wp.ne (by omega) (by omega) (fun _ => ?_) (fun _ => ?_) <;> try (exfalso; omega))
      | with_reducible refine Wp.lt0 (by omega) ?_
      | with_reducible refine Wp.ge0 (by omega) ?_
      | (with_reducible refine Wp.bz (fun _ => ?_) (fun _ => ?_) <;> try contradiction)
      | (with_reducible refine Wp.bn (fun _ => ?_) (fun _ => ?_) <;> try contradiction)
      | (with_reducible refine Wp.br (fun _ => ?_) (fun _ => ?_) <;> try contradiction)
      | refine Wp.gik rfl (by assumption) (by with_reducible assumption) ?_
      | refine Wp.gi rfl (by assumption) ?_
      | refine Wp.gz rfl (by assumption) ?_
      | refine Wp.gr rfl (by assumption) (by assumption) ?_
      | refine Wp.gn rfl (by assumption) (by assumption) ?_
      | refine Wp.gl rfl (by assumption) ?_
      | refine Wp.addn rfl (by with_reducible rfl) (by with_reducible rfl) ?_
      | refine Wp.muln rfl (by with_reducible rfl) (by with_reducible rfl) ?_
      | refine Wp.subn rfl (by with_reducible rfl) (by with_reducible rfl) (by omega) ?_
      | (refine Wp.decn rfl rfl ?_; dsimp only [List.set])
      | (refine Wp.incn rfl rfl ?_; dsimp only [List.set])
      | (refine Wp.go rfl rfl ?_; try dsimp only [List.set])
      | refine Wp.pi rfl (by assumption) ?_
      | refine Wp.pr rfl (by assumption) ?_
      | refine Wp.pn rfl (by assumption) ?_
      | refine Wp.pl rfl (by assumption) ?_
      | refine Wp.aik rfl (by assumption) rfl (by first | with_reducible rfl | with_reducible assumption) (by omega) (by with_reducible assumption) ?_
      | refine Wp.aiN rfl (by assumption) rfl (by first | with_reducible rfl | with_reducible assumption) (by omega) ?_
      | refine Wp.siN rfl (by assumption) rfl (by first | with_reducible rfl | with_reducible assumption) (by omega) ?_
      | refine Wp.rt rfl rfl rfl rfl ?_
      | refine Wp.rz rfl rfl (by decide) ?_))
      exact key M1 _ h (he.up (by omega)) hq
    · rw [if_neg hc] at key
      repeat' ((with_reducible fail_if_success show Wp _ _ 84 _ _ _ _); (first
      | (with_reducible refine Wp.lt (by omega) (by omega) (fun _ => ?_) (fun _ => ?_) <;> try (exfalso; omega))
      | (with_reducible refine Wp.le (by omega) (by omega) (fun _ => ?_) (fun _ => ?_) <;> try (exfalso; omega))
      | (with_reducible refine Wp.eq (by omega) (by omega) (fun _ => ?_) (fun _ => ?_) <;> try (exfalso; omega))
      | (with_reducible refine Wp.ne (by omega) (by omega) (fun _ => ?_) (fun _ => ?_) <;> try (exfalso; omega))
      | with_reducible refine Wp.lt0 (by omega) ?_
      | with_reducible refine Wp.ge0 (by omega) ?_
      | (with_reducible refine Wp.bz (fun _ => ?_) (fun _ => ?_) <;> try contradiction)
      | (with_reducible refine Wp.bn (fun _ => ?_) (fun _ => ?_) <;> try contradiction)
      | (with_reducible refine Wp.br (fun _ => ?_) (fun _ => ?_) <;> try contradiction)
      | refine Wp.gik rfl (by assumption) (by with_reducible assumption) ?_
      | refine Wp.gi rfl (by assumption) ?_
      | refine Wp.gz rfl (by assumption) ?_
      | refine Wp.gr rfl (by assumption) (by assumption) ?_
      | refine Wp.gn rfl (by assumption) (by assumption) ?_
      | refine Wp.gl rfl (by assumption) ?_
      | refine Wp.addn rfl (by with_reducible rfl) (by with_reducible rfl) ?_
      | refine Wp.muln rfl (by with_reducible rfl) (by with_reducible rfl) ?_
      | refine Wp.subn rfl (by with_reducible rfl) (by with_reducible rfl) (by omega) ?_
      | (refine Wp.decn rfl rfl ?_; dsimp only [List.set])
      | (refine Wp.incn rfl rfl ?_; dsimp only [List.set])
      | (refine Wp.go rfl rfl ?_; try dsimp only [List.set])
      | refine Wp.pi rfl (by assumption) ?_
      | refine Wp.pr rfl (by assumption) ?_
      | refine Wp.pn rfl (by assumption) ?_
      | refine Wp.pl rfl (by assumption) ?_
      | refine Wp.aik rfl (by assumption) rfl (by first | with_reducible rfl | with_reducible assumption) (by omega) (by with_reducible assumption) ?_
      | refine Wp.aiN rfl (by assumption) rfl (by first | with_reducible rfl | with_reducible assumption) (by omega) ?_
      | refine Wp.siN rfl (by assumption) rfl (by first | with_reducible rfl | with_reducible assumption) (by omega) ?_
      | refine Wp.rt rfl rfl rfl rfl ?_
      | refine Wp.rz rfl rfl (by decide) ?_))
      refine Wp.V2 rfl p1 rfl (k_prop d h hr hs (by omega) _) (fun M' v hq' => ?_)
      obtain ⟨k1, k2, rfl⟩ := hq'
      show Wp (d + 4) 48 87 _ [] M' Q
      repeat' ((with_reducible fail_if_success show Wp _ _ 65 _ _ _ _); (first
      | (with_reducible refine Wp.lt (by omega) (by omega) (fun _ => ?_) (fun _ => ?_) <;> try (exfalso; omega))
      | (with_reducible refine Wp.le (by omega) (by omega) (fun _ => ?_) (fun _ => ?_) <;> try (exfalso; omega))
      | (with_reducible refine Wp.eq (by omega) (by omega) (fun _ => ?_) (fun _ => ?_) <;> try (exfalso; omega))
      | (with_reducible refine Wp.ne (by omega) (by omega) (fun _ => ?_) (fun _ => ?_) <;> try (exfalso; omega))
      | with_reducible refine Wp.lt0 (by omega) ?_
      | with_reducible refine Wp.ge0 (by omega) ?_
      | (with_reducible refine Wp.bz (fun _ => ?_) (fun _ => ?_) <;> try contradiction)
      | (with_reducible refine Wp.bn (fun _ => ?_) (fun _ => ?_) <;> try contradiction)
      | (with_reducible refine Wp.br (fun _ => ?_) (fun _ => ?_) <;> try contradiction)
      | refine Wp.gik rfl (by assumption) (by with_reducible assumption) ?_
      | refine Wp.gi rfl (by assumption) ?_
      | refine Wp.gz rfl (by assumption) ?_
      | refine Wp.gr rfl (by assumption) (by assumption) ?_
      | refine Wp.gn rfl (by assumption) (by assumption) ?_
      | refine Wp.gl rfl (by assumption) ?_
      | refine Wp.addn rfl (by with_reducible rfl) (by with_reducible rfl) ?_
      | refine Wp.muln rfl (by with_reducible rfl) (by with_reducible rfl) ?_
      | refine Wp.subn rfl (by with_reducible rfl) (by with_reducible rfl) (by omega) ?_
      | (refine Wp.decn rfl rfl ?_; dsimp only [List.set])
      | (refine Wp.incn rfl rfl ?_; dsimp only [List.set])
      | (refine Wp.go rfl rfl ?_; try dsimp only [List.set])
      | refine Wp.pi rfl (by assumption) ?_
      | refine Wp.pr rfl (by assumption) ?_
      | refine Wp.pn rfl (by assumption) ?_
      | refine Wp.pl rfl (by assumption) ?_
      | refine Wp.aik rfl (by assumption) rfl (by first | with_reducible rfl | with_reducible assumption) (by omega) (by with_reducible assumption) ?_
      | refine Wp.aiN rfl (by assumption) rfl (by first | with_reducible rfl | with_reducible assumption) (by omega) ?_
      | refine Wp.siN rfl (by assumption) rfl (by first | with_reducible rfl | with_reducible assumption) (by omega) ?_
      | refine Wp.rt rfl rfl rfl rfl ?_
      | refine Wp.rz rfl rfl (by decide) ?_))
      exact key M' _ k1 (he.trans k2) hq
set_option maxHeartbeats 4000000 in
theorem k_go (d : Nat) (h : Rp M C) (hr : r < 5) (hk : kOK C r) : Ev (d + 5) 48 M [.ref (9 + 13 * r)] (fun M' v => Rp M' (c_go C r) ∧ Ext 87 M M' ∧ v = none) := by
  obtain ⟨p1, p2, p3, p4, p5, p6⟩ := h.f hr
  obtain ⟨t, t1, t2⟩ := h.hp hr
  obtain ⟨e1, e2, e3⟩ := t2.f
  refine Ev.of (ls := [some (.ref (9 + 13 * r)), none, none, none]) rfl rfl ?_
  repeat' ((with_reducible fail_if_success show Wp _ _ 10 _ _ _ _); (first
      | (with_reducible refine Wp.lt (by omega) (by omega) (fun _ => ?_) (fun _ => ?_) <;> try (exfalso; omega))
      | (with_reducible refine Wp.le (by omega) (by omega) (fun _ => ?_) (fun _ => ?_) <;> try (exfalso; omega))
      | (with_reducible refine Wp.eq (by omega) (by omega) (fun _ => ?_) (fun _ => ?_) <;> try (exfalso; omega))
      | (with_reducible refine Wp.ne (by omega) (by omega) (fun _ => ?_) (fun _ => ?_) <;> try (exfalso; omega))
      | with_reducible refine Wp.lt0 (by omega) ?_
      | with_reducible refine Wp.ge0 (by omega) ?_
      | (with_reducible refine Wp.bz (fun _ => ?_) (fun _ => ?_) <;> try contradiction)
      | (with_reducible refine Wp.bn (fun _ => ?_) (fun _ => ?_) <;> try contradiction)
      | (with_reducible refine Wp.br (fun _ => ?_) (fun _ => ?_) <;> try contradiction)
      | refine Wp.gik rfl (by assumption) (by with_reducible assumption) ?_
      | refine Wp.gi rfl (by assumption) ?_
      | refine Wp.gz rfl (by assumption) ?_
      | refine Wp.gr rfl (by assumption) (by assumption) ?_
      | refine Wp.gn rfl (by assumption) (by assumption) ?_
      | refine Wp.gl rfl (by assumption) ?_
      | refine Wp.addn rfl (by with_reducible rfl) (by with_reducible rfl) ?_
      | refine Wp.muln rfl (by with_reducible rfl) (by with_reducible rfl) ?_
      | refine Wp.subn rfl (by with_reducible rfl) (by with_reducible rfl) (by omega) ?_
      | (refine Wp.decn rfl rfl ?_; dsimp only [List.set])
      | (refine Wp.incn rfl rfl ?_; dsimp only [List.set])
      | (refine Wp.go rfl rfl ?_; try dsimp only [List.set])
      | refine Wp.pi rfl (by assumption) ?_
      | refine Wp.pr rfl (by assumption) ?_
      | refine Wp.pn rfl (by assumption) ?_
      | refine Wp.pl rfl (by assumption) ?_
      | refine Wp.aik rfl (by assumption) rfl (by first | with_reducible rfl | with_reducible assumption) (by omega) (by with_reducible assumption) ?_
      | refine Wp.aiN rfl (by assumption) rfl (by first | with_reducible rfl | with_reducible assumption) (by omega) ?_
      | refine Wp.siN rfl (by assumption) rfl (by first | with_reducible rfl | with_reducible assumption) (by omega) ?_
      | refine Wp.rt rfl rfl rfl rfl ?_
      | refine Wp.rz rfl rfl (by decide) ?_))
  refine k_go1 d hr _ (24 - sl (C.2.1 r)) 0 M C h (Ext.refl M) (by omega) (by omega) hk (fun M' x k1 k2 => ?_)
  obtain ⟨p1', p2', p3', p4', p5', p6'⟩ := k1.f hr
  obtain ⟨t', t1', t2'⟩ := k1.hp hr
  obtain ⟨e1', e2', e3'⟩ := t2'.f
  repeat' ((with_reducible fail_if_success show Wp _ _ 65 _ _ _ _); (first
      | (with_reducible refine Wp.lt (by omega) (by omega) (fun _ => ?_) (fun _ => ?_) <;> try (exfalso; omega))
      | (with_reducible refine Wp.le (by omega) (by omega) (fun _ => ?_) (fun _ => ?_) <;> try (exfalso; omega))
      | (with_reducible refine Wp.eq (by omega) (by omega) (fun _ => ?_) (fun _ => ?_) <;> try (exfalso; omega))
      | (with_reducible refine Wp.ne (by omega) (by omega) (fun _ => ?_) (fun _ => ?_) <;> try (exfalso; omega))
      | with_reducible refine Wp.lt0 (by omega) ?_
      | with_reducible refine Wp.ge0 (by omega) ?_
      | (with_reducible refine Wp.bz (fun _ => ?_) (fun _ => ?_) <;> try contradiction)
      | (with_reducible refine Wp.bn (fun _ => ?_) (fun _ => ?_) <;> try contradiction)
      | (with_reducible refine Wp.br (fun _ => ?_) (fun _ => ?_) <;> try contradiction)
      | refine Wp.gik rfl (by assumption) (by with_reducible assumption) ?_
      | refine Wp.gi rfl (by assumption) ?_
      | refine Wp.gz rfl (by assumption) ?_
      | refine Wp.gr rfl (by assumption) (by assumption) ?_
      | refine Wp.gn rfl (by assumption) (by assumption) ?_
      | refine Wp.gl rfl (by assumption) ?_
      | refine Wp.addn rfl (by with_reducible rfl) (by with_reducible rfl) ?_
      | refine Wp.muln rfl (by with_reducible rfl) (by with_reducible rfl) ?_
      | refine Wp.subn rfl (by with_reducible rfl) (by with_reducible rfl) (by omega) ?_
      | (refine Wp.decn rfl rfl ?_; dsimp only [List.set])
      | (refine Wp.incn rfl rfl ?_; dsimp only [List.set])
      | (refine Wp.go rfl rfl ?_; try dsimp only [List.set])
      | refine Wp.pi rfl (by assumption) ?_
      | refine Wp.pr rfl (by assumption) ?_
      | refine Wp.pn rfl (by assumption) ?_
      | refine Wp.pl rfl (by assumption) ?_
      | refine Wp.aik rfl (by assumption) rfl (by first | with_reducible rfl | with_reducible assumption) (by omega) (by with_reducible assumption) ?_
      | refine Wp.aiN rfl (by assumption) rfl (by first | with_reducible rfl | with_reducible assumption) (by omega) ?_
      | refine Wp.siN rfl (by assumption) rfl (by first | with_reducible rfl | with_reducible assumption) (by omega) ?_
      | refine Wp.rt rfl rfl rfl rfl ?_
      | refine Wp.rz rfl rfl (by decide) ?_))
  exact k_go2 (C := c_exs C r (24 - sl (C.2.1 r))) d hr e3' _ rfl 3 0 M' none rfl k1 k2 (fun M2 j1 j2 => ⟨j1, j2, rfl⟩)
set_option maxHeartbeats 4000000 in
theorem k_rep1 (d : Nat) (hr : r < 5) {e : Nat} (he24 : e ≤ 24) (Q : xM → Option Value → Prop) (hC : sl (C.2.1 r) = e) : ∀ (n m : Nat) (M1 : xM) (x3 : Option Value), m + n = 3 → Rp M1 (c_rps C r e m) → Ext (5 * m) M M1 → (∀ M', Rp M' (c_rps C r e 3) → Ext 15 M M' → Q M' none) → Wp (d + 3) 36 20 [some (.ref (9 + 13 * r)), some (.int (nI (e + 3))), some (.int (nI (e + 1 + m))), x3] [] M1 Q := by
  intro n
  induction n with
  | zero =>
    intro m M1 x3 hm h he hq
    have e3 : m = 3 := by omega
    subst e3
    repeat' (first
      | (with_reducible refine Wp.lt (by omega) (by omega) (fun _ => ?_) (fun _ => ?_) <;> try (exfalso; omega))
      | (with_reducible refine Wp.le (by omega) (by omega) (fun _ => ?_) (fun _ => ?_) <;> try (exfalso; omega))
      | (with_reducible refine Wp.eq (by omega) (by omega) (fun _ => ?_) (fun _ => ?_) <;> try (exfalso; omega))
      | (with_reducible refine Wp.ne (by omega) (by omega) (fun _ => ?_) (fun _ => ?_) <;> try (exfalso; omega))
      | with_reducible refine Wp.lt0 (by omega) ?_
      | with_reducible refine Wp.ge0 (by omega) ?_
      | (with_reducible refine Wp.bz (fun _ => ?_) (fun _ => ?_) <;> try contradiction)
      | (with_reducible refine Wp.bn (fun _ => ?_) (fun _ => ?_) <;> try contradiction)
      | (with_reducible refine Wp.br (fun _ => ?_) (fun _ => ?_) <;> try contradiction)
      | refine Wp.gik rfl (by assumption) (by with_reducible assumption) ?_
      | refine Wp.gi rfl (by assumption) ?_
      | refine Wp.gz rfl (by assumption) ?_
      | refine Wp.gr rfl (by assumption) (by assumption) ?_
      | refine Wp.gn rfl (by assumption) (by assumption) ?_
      | refine Wp.gl rfl (by assumption) ?_
      | refine Wp.addn rfl (by with_reducible rfl) (by with_reducible rfl) ?_
      | refine Wp.muln rfl (by with_reducible rfl) (by with_reducible rfl) ?_
      | refine Wp.subn rfl (by with_reducible rfl) (by with_reducible rfl) (by omega) ?_
      | (refine Wp.decn rfl rfl ?_; dsimp only [List.set])
      | (refine Wp.incn rfl rfl ?_; dsimp only [List.set])
      | (refine Wp.go rfl rfl ?_; try dsimp only [List.set])
      | refine Wp.pi rfl (by assumption) ?_
      | refine Wp.pr rfl (by assumption) ?_
      | refine Wp.pn rfl (by assumption) ?_
      | refine Wp.pl rfl (by assumption) ?_
      | refine Wp.aik rfl (by assumption) rfl (by first | with_reducible rfl | with_reducible assumption) (by omega) (by with_reducible assumption) ?_
      | refine Wp.aiN rfl (by assumption) rfl (by first | with_reducible rfl | with_reducible assumption) (by omega) ?_
      | refine Wp.siN rfl (by assumption) rfl (by first | with_reducible rfl | with_reducible assumption) (by omega) ?_
      | refine Wp.rt rfl rfl rfl rfl ?_
      | refine Wp.rz rfl rfl (by decide) ?_)
    exact hq M1 h he
  | succ n ih =>
    intro m M1 x3 hm h he hq
    obtain ⟨p1, p2, p3, p4, p5, p6⟩ := h.f hr
    obtain ⟨g1, g2, g3, g4, g5, g6, g7⟩ := h.g hr
    obtain ⟨t, t1, t2⟩ := h.hp hr
    obtain ⟨e1, e2, e3⟩ := t2.f
    have hs : sl ((c_rps C r e m).2.1 r) < e + 1 + m := by rw [c_rps_p, hC]; omega
    have key := fun M2 x => ih (m + 1) M2 x (by omega)
    simp only [c_rps] at key
    repeat' ((with_reducible fail_if_success show Wp _ _ 33 _ _ _ _); (first
      | (with_reducible refine Wp.lt (by omega) (by omega) (fun _ => ?_) (fun _ => ?_) <;> try (exfalso; omega))
      | (with_reducible refine Wp.le (by omega) (by omega) (fun _ => ?_) (fun _ => ?_) <;> try (exfalso; omega))
      | (with_reducible refine Wp.eq (by omega) (by omega) (fun _ => ?_) (fun _ => ?_) <;> try (exfalso; omega))
      | (with_reducible refine Wp.ne (by omega) (by omega) (fun _ => ?_) (fun _ => ?_) <;> try (exfalso; omega))
      | with_reducible refine Wp.lt0 (by omega) ?_
      | with_reducible refine Wp.ge0 (by omega) ?_
      | (with_reducible refine Wp.bz (fun _ => ?_) (fun _ => ?_) <;> try contradiction)
      | (with_reducible refine Wp.bn (fun _ => ?_) (fun _ => ?_) <;> try contradiction)
      | (with_reducible refine Wp.br (fun _ => ?_) (fun _ => ?_) <;> try contradiction)
      | refine Wp.gik rfl (by assumption) (by with_reducible assumption) ?_
      | refine Wp.gi rfl (by assumption) ?_
      | refine Wp.gz rfl (by assumption) ?_
      | refine Wp.gr rfl (by assumption) (by assumption) ?_
      | refine Wp.gn rfl (by assumption) (by assumption) ?_
      | refine Wp.gl rfl (by assumption) ?_
      | refine Wp.addn rfl (by with_reducible rfl) (by with_reducible rfl) ?_
      | refine Wp.muln rfl (by with_reducible rfl) (by with_reducible rfl) ?_
      | refine Wp.subn rfl (by with_reducible rfl) (by with_reducible rfl) (by omega) ?_
      | (refine Wp.decn rfl rfl ?_; dsimp only [List.set])
      | (refine Wp.incn rfl rfl ?_; dsimp only [List.set])
      | (refine Wp.go rfl rfl ?_; try dsimp only [List.set])
      | refine Wp.pi rfl (by assumption) ?_
      | refine Wp.pr rfl (by assumption) ?_
      | refine Wp.pn rfl (by assumption) ?_
      | refine Wp.pl rfl (by assumption) ?_
      | refine Wp.aik rfl (by assumption) rfl (by first | with_reducible rfl | with_reducible assumption) (by omega) (by with_reducible assumption) ?_
      | refine Wp.aiN rfl (by assumption) rfl (by first | with_reducible rfl | with_reducible assumption) (by omega) ?_
      | refine Wp.siN rfl (by assumption) rfl (by first | with_reducible rfl | with_reducible assumption) (by omega) ?_
      | refine Wp.rt rfl rfl rfl rfl ?_
      | refine Wp.rz rfl rfl (by decide) ?_))
    refine Wp.V1i rfl g7 rfl (w_chas (d + 1) h (by omega) (h.oK hr) (by omega)) ?_
    iterate 2 (first
      | (with_reducible refine Wp.lt (by omega) (by omega) (fun _ => ?_) (fun _ => ?_) <;> try (exfalso; omega))
      | (with_reducible refine Wp.le (by omega) (by omega) (fun _ => ?_) (fun _ => ?_) <;> try (exfalso; omega))
      | (with_reducible refine Wp.eq (by omega) (by omega) (fun _ => ?_) (fun _ => ?_) <;> try (exfalso; omega))
      | (with_reducible refine Wp.ne (by omega) (by omega) (fun _ => ?_) (fun _ => ?_) <;> try (exfalso; omega))
      | with_reducible refine Wp.lt0 (by omega) ?_
      | with_reducible refine Wp.ge0 (by omega) ?_
      | (with_reducible refine Wp.bz (fun _ => ?_) (fun _ => ?_) <;> try contradiction)
      | (with_reducible refine Wp.bn (fun _ => ?_) (fun _ => ?_) <;> try contradiction)
      | (with_reducible refine Wp.br (fun _ => ?_) (fun _ => ?_) <;> try contradiction)
      | refine Wp.gik rfl (by assumption) (by with_reducible assumption) ?_
      | refine Wp.gi rfl (by assumption) ?_
      | refine Wp.gz rfl (by assumption) ?_
      | refine Wp.gr rfl (by assumption) (by assumption) ?_
      | refine Wp.gn rfl (by assumption) (by assumption) ?_
      | refine Wp.gl rfl (by assumption) ?_
      | refine Wp.addn rfl (by with_reducible rfl) (by with_reducible rfl) ?_
      | refine Wp.muln rfl (by with_reducible rfl) (by with_reducible rfl) ?_
      | refine Wp.subn rfl (by with_reducible rfl) (by with_reducible rfl) (by omega) ?_
      | (refine Wp.decn rfl rfl ?_; dsimp only [List.set])
      | (refine Wp.incn rfl rfl ?_; dsimp only [List.set])
      | (refine Wp.go rfl rfl ?_; try dsimp only [List.set])
      | refine Wp.pi rfl (by assumption) ?_
      | refine Wp.pr rfl (by assumption) ?_
      | refine Wp.pn rfl (by assumption) ?_
      | refine Wp.pl rfl (by assumption) ?_
      | refine Wp.aik rfl (by assumption) rfl (by first | with_reducible rfl | with_reducible assumption) (by omega) (by with_reducible assumption) ?_
      | refine Wp.aiN rfl (by assumption) rfl (by first | with_reducible rfl | with_reducible assumption) (by omega) ?_
      | refine Wp.siN rfl (by assumption) rfl (by first | with_reducible rfl | with_reducible assumption) (by omega) ?_
      | refine Wp.rt rfl rfl rfl rfl ?_
      | refine Wp.rz rfl rfl (by decide) ?_)
    · rename_i hc
      rw [if_neg (by rw [hc]; simp)] at key
      repeat' ((with_reducible fail_if_success show Wp _ _ 20 _ _ _ _); (first
      | (with_reducible refine Wp.lt (by omega) (by omega) (fun _ => ?_) (fun _ => ?_) <;> try (exfalso; omega))
      | (with_reducible refine Wp.le (by omega) (by omega) (fun _ => ?_) (fun _ => ?_) <;> try (exfalso; omega))
      | (with_reducible refine Wp.eq (by omega) (by omega) (fun _ => ?_) (fun _ => ?_) <;> try (exfalso; omega))
      | (with_reducible refine Wp.ne (by omega) (by omega) (fun _ => ?_) (fun _ => ?_) <;> try (exfalso; omega))
      | with_reducible refine Wp.lt0 (by omega) ?_
      | with_reducible refine Wp.ge0 (by omega) ?_
      | (with_reducible refine Wp.bz (fun _ => ?_) (fun _ => ?_) <;> try contradiction)
      | (with_reducible refine Wp.bn (fun _ => ?_) (fun _ => ?_) <;> try contradiction)
      | (with_reducible refine Wp.br (fun _ => ?_) (fun _ => ?_) <;> try contradiction)
      | refine Wp.gik rfl (by assumption) (by with_reducible assumption) ?_
      | refine Wp.gi rfl (by assumption) ?_
      | refine Wp.gz rfl (by assumption) ?_
      | refine Wp.gr rfl (by assumption) (by assumption) ?_
      | refine Wp.gn rfl (by assumption) (by assumption) ?_
      | refine Wp.gl rfl (by assumption) ?_
      | refine Wp.addn rfl (by with_reducible rfl) (by with_reducible rfl) ?_
      | refine Wp.muln rfl (by with_reducible rfl) (by with_reducible rfl) ?_
      | refine Wp.subn rfl (by with_reducible rfl) (by with_reducible rfl) (by omega) ?_
      | (refine Wp.decn rfl rfl ?_; dsimp only [List.set])
      | (refine Wp.incn rfl rfl ?_; dsimp only [List.set])
      | (refine Wp.go rfl rfl ?_; try dsimp only [List.set])
      | refine Wp.pi rfl (by assumption) ?_
      | refine Wp.pr rfl (by assumption) ?_
      | refine Wp.pn rfl (by assumption) ?_
      | refine Wp.pl rfl (by assumption) ?_
      | refine Wp.aik rfl (by assumption) rfl (by first | with_reducible rfl | with_reducible assumption) (by omega) (by with_reducible assumption) ?_
      | refine Wp.aiN rfl (by assumption) rfl (by first | with_reducible rfl | with_reducible assumption) (by omega) ?_
      | refine Wp.siN rfl (by assumption) rfl (by first | with_reducible rfl | with_reducible assumption) (by omega) ?_
      | refine Wp.rt rfl rfl rfl rfl ?_
      | refine Wp.rz rfl rfl (by decide) ?_))
      exact key M1 _ h (he.up (by omega)) hq
    · rename_i hc
      repeat' ((with_reducible fail_if_success show Wp _ _ 44 _ _ _ _); (first
      | (with_reducible refine Wp.lt (by omega) (by omega) (fun _ => ?_) (fun _ => ?_) <;> try (exfalso; omega))
      | (with_reducible refine Wp.le (by omega) (by omega) (fun _ => ?_) (fun _ => ?_) <;> try (exfalso; omega))
      | (with_reducible refine Wp.eq (by omega) (by omega) (fun _ => ?_) (fun _ => ?_) <;> try (exfalso; omega))
      | (with_reducible refine Wp.ne (by omega) (by omega) (fun _ => ?_) (fun _ => ?_) <;> try (exfalso; omega))
      | with_reducible refine Wp.lt0 (by omega) ?_
      | with_reducible refine Wp.ge0 (by omega) ?_
      | (with_reducible refine Wp.bz (fun _ => ?_) (fun _ => ?_) <;> try contradiction)
      | (with_reducible refine Wp.bn (fun _ => ?_) (fun _ => ?_) <;> try contradiction)
      | (with_reducible refine Wp.br (fun _ => ?_) (fun _ => ?_) <;> try contradiction)
      | refine Wp.gik rfl (by assumption) (by with_reducible assumption) ?_
      | refine Wp.gi rfl (by assumption) ?_
      | refine Wp.gz rfl (by assumption) ?_
      | refine Wp.gr rfl (by assumption) (by assumption) ?_
      | refine Wp.gn rfl (by assumption) (by assumption) ?_
      | refine Wp.gl rfl (by assumption) ?_
      | refine Wp.addn rfl (by with_reducible rfl) (by with_reducible rfl) ?_
      | refine Wp.muln rfl (by with_reducible rfl) (by with_reducible rfl) ?_
      | refine Wp.subn rfl (by with_reducible rfl) (by with_reducible rfl) (by omega) ?_
      | (refine Wp.decn rfl rfl ?_; dsimp only [List.set])
      | (refine Wp.incn rfl rfl ?_; dsimp only [List.set])
      | (refine Wp.go rfl rfl ?_; try dsimp only [List.set])
      | refine Wp.pi rfl (by assumption) ?_
      | refine Wp.pr rfl (by assumption) ?_
      | refine Wp.pn rfl (by assumption) ?_
      | refine Wp.pl rfl (by assumption) ?_
      | refine Wp.aik rfl (by assumption) rfl (by first | with_reducible rfl | with_reducible assumption) (by omega) (by with_reducible assumption) ?_
      | refine Wp.aiN rfl (by assumption) rfl (by first | with_reducible rfl | with_reducible assumption) (by omega) ?_
      | refine Wp.siN rfl (by assumption) rfl (by first | with_reducible rfl | with_reducible assumption) (by omega) ?_
      | refine Wp.rt rfl rfl rfl rfl ?_
      | refine Wp.rz rfl rfl (by decide) ?_))
      refine Wp.V1i rfl g2 rfl (w_chas (d + 1) h (by omega) (h.kK hr) (by omega)) ?_
      iterate 2 (first
      | (with_reducible refine Wp.lt (by omega) (by omega) (fun _ => ?_) (fun _ => ?_) <;> try (exfalso; omega))
      | (with_reducible refine Wp.le (by omega) (by omega) (fun _ => ?_) (fun _ => ?_) <;> try (exfalso; omega))
      | (with_reducible refine Wp.eq (by omega) (by omega) (fun _ => ?_) (fun _ => ?_) <;> try (exfalso; omega))
      | (with_reducible refine Wp.ne (by omega) (by omega) (fun _ => ?_) (fun _ => ?_) <;> try (exfalso; omega))
      | with_reducible refine Wp.lt0 (by omega) ?_
      | with_reducible refine Wp.ge0 (by omega) ?_
      | (with_reducible refine Wp.bz (fun _ => ?_) (fun _ => ?_) <;> try contradiction)
      | (with_reducible refine Wp.bn (fun _ => ?_) (fun _ => ?_) <;> try contradiction)
      | (with_reducible refine Wp.br (fun _ => ?_) (fun _ => ?_) <;> try contradiction)
      | refine Wp.gik rfl (by assumption) (by with_reducible assumption) ?_
      | refine Wp.gi rfl (by assumption) ?_
      | refine Wp.gz rfl (by assumption) ?_
      | refine Wp.gr rfl (by assumption) (by assumption) ?_
      | refine Wp.gn rfl (by assumption) (by assumption) ?_
      | refine Wp.gl rfl (by assumption) ?_
      | refine Wp.addn rfl (by with_reducible rfl) (by with_reducible rfl) ?_
      | refine Wp.muln rfl (by with_reducible rfl) (by with_reducible rfl) ?_
      | refine Wp.subn rfl (by with_reducible rfl) (by with_reducible rfl) (by omega) ?_
      | (refine Wp.decn rfl rfl ?_; dsimp only [List.set])
      | (refine Wp.incn rfl rfl ?_; dsimp only [List.set])
      | (refine Wp.go rfl rfl ?_; try dsimp only [List.set])
      | refine Wp.pi rfl (by assumption) ?_
      | refine Wp.pr rfl (by assumption) ?_
      | refine Wp.pn rfl (by assumption) ?_
      | refine Wp.pl rfl (by assumption) ?_
      | refine Wp.aik rfl (by assumption) rfl (by first | with_reducible rfl | with_reducible assumption) (by omega) (by with_reducible assumption) ?_
      | refine Wp.aiN rfl (by assumption) rfl (by first | with_reducible rfl | with_reducible assumption) (by omega) ?_
      | refine Wp.siN rfl (by assumption) rfl (by first | with_reducible rfl | with_reducible assumption) (by omega) ?_
      | refine Wp.rt rfl rfl rfl rfl ?_
      | refine Wp.rz rfl rfl (by decide) ?_)
      · rename_i hc2
        rw [if_neg (by rw [hc, hc2]; simp)] at key
        repeat' ((with_reducible fail_if_success show Wp _ _ 20 _ _ _ _); (first
      | (with_reducible refine Wp.lt (by omega) (by omega) (fun _ => ?_) (fun _ => ?_) <;> try (exfalso; omega))
      | (with_reducible refine Wp.le (by omega) (by omega) (fun _ => ?_) (fun _ => ?_) <;> try (exfalso; omega))
      | (with_reducible refine Wp.eq (by omega) (by omega) (fun _ => ?_) (fun _ => ?_) <;> try (exfalso; omega))
      | (with_reducible refine Wp.ne (by omega) (by omega) (fun _ => ?_) (fun _ => ?_) <;> try (exfalso; omega))
      | with_reducible refine Wp.lt0 (by omega) ?_
      | with_reducible refine Wp.ge0 (by omega) ?_
      | (with_reducible refine Wp.bz (fun _ => ?_) (fun _ => ?_) <;> try contradiction)
      | (with_reducible refine Wp.bn (fun _ => ?_) (fun _ => ?_) <;> try contradiction)
      | (with_reducible refine Wp.br (fun _ => ?_) (fun _ => ?_) <;> try contradiction)
      | refine Wp.gik rfl (by assumption) (by with_reducible assumption) ?_
      | refine Wp.gi rfl (by assumption) ?_
      | refine Wp.gz rfl (by assumption) ?_
      | refine Wp.gr rfl (by assumption) (by assumption) ?_
      | refine Wp.gn rfl (by assumption) (by assumption) ?_
      | refine Wp.gl rfl (by assumption) ?_
      | refine Wp.addn rfl (by with_reducible rfl) (by with_reducible rfl) ?_
      | refine Wp.muln rfl (by with_reducible rfl) (by with_reducible rfl) ?_
      | refine Wp.subn rfl (by with_reducible rfl) (by with_reducible rfl) (by omega) ?_
      | (refine Wp.decn rfl rfl ?_; dsimp only [List.set])
      | (refine Wp.incn rfl rfl ?_; dsimp only [List.set])
      | (refine Wp.go rfl rfl ?_; try dsimp only [List.set])
      | refine Wp.pi rfl (by assumption) ?_
      | refine Wp.pr rfl (by assumption) ?_
      | refine Wp.pn rfl (by assumption) ?_
      | refine Wp.pl rfl (by assumption) ?_
      | refine Wp.aik rfl (by assumption) rfl (by first | with_reducible rfl | with_reducible assumption) (by omega) (by with_reducible assumption) ?_
      | refine Wp.aiN rfl (by assumption) rfl (by first | with_reducible rfl | with_reducible assumption) (by omega) ?_
      | refine Wp.siN rfl (by assumption) rfl (by first | with_reducible rfl | with_reducible assumption) (by omega) ?_
      | refine Wp.rt rfl rfl rfl rfl ?_
      | refine Wp.rz rfl rfl (by decide) ?_))
        exact key M1 _ h (he.up (by omega)) hq
      · rename_i hc2
        rw [if_pos (by rw [hc, hc2]; rfl)] at key
        repeat' ((with_reducible fail_if_success show Wp _ _ 55 _ _ _ _); (first
      | (with_reducible refine Wp.lt (by omega) (by omega) (fun _ => ?_) (fun _ => ?_) <;> try (exfalso; omega))
      | (with_reducible refine Wp.le (by omega) (by omega) (fun _ => ?_) (fun _ => ?_) <;> try (exfalso; omega))
      | (with_reducible refine Wp.eq (by omega) (by omega) (fun _ => ?_) (fun _ => ?_) <;> try (exfalso; omega))
      | (with_reducible refine Wp.ne (by omega) (by omega) (fun _ => ?_) (fun _ => ?_) <;> try (exfalso; omega))
      | with_reducible refine Wp.lt0 (by omega) ?_
      | with_reducible refine Wp.ge0 (by omega) ?_
      | (with_reducible refine Wp.bz (fun _ => ?_) (fun _ => ?_) <;> try contradiction)
      | (with_reducible refine Wp.bn (fun _ => ?_) (fun _ => ?_) <;> try contradiction)
      | (with_reducible refine Wp.br (fun _ => ?_) (fun _ => ?_) <;> try contradiction)
      | refine Wp.gik rfl (by assumption) (by with_reducible assumption) ?_
      | refine Wp.gi rfl (by assumption) ?_
      | refine Wp.gz rfl (by assumption) ?_
      | refine Wp.gr rfl (by assumption) (by assumption) ?_
      | refine Wp.gn rfl (by assumption) (by assumption) ?_
      | refine Wp.gl rfl (by assumption) ?_
      | refine Wp.addn rfl (by with_reducible rfl) (by with_reducible rfl) ?_
      | refine Wp.muln rfl (by with_reducible rfl) (by with_reducible rfl) ?_
      | refine Wp.subn rfl (by with_reducible rfl) (by with_reducible rfl) (by omega) ?_
      | (refine Wp.decn rfl rfl ?_; dsimp only [List.set])
      | (refine Wp.incn rfl rfl ?_; dsimp only [List.set])
      | (refine Wp.go rfl rfl ?_; try dsimp only [List.set])
      | refine Wp.pi rfl (by assumption) ?_
      | refine Wp.pr rfl (by assumption) ?_
      | refine Wp.pn rfl (by assumption) ?_
      | refine Wp.pl rfl (by assumption) ?_
      | refine Wp.aik rfl (by assumption) rfl (by first | with_reducible rfl | with_reducible assumption) (by omega) (by with_reducible assumption) ?_
      | refine Wp.aiN rfl (by assumption) rfl (by first | with_reducible rfl | with_reducible assumption) (by omega) ?_
      | refine Wp.siN rfl (by assumption) rfl (by first | with_reducible rfl | with_reducible assumption) (by omega) ?_
      | refine Wp.rt rfl rfl rfl rfl ?_
      | refine Wp.rz rfl rfl (by decide) ?_))
        refine Wp.V1i rfl e1 rfl (w_memb (d + 2) t2 hs (by omega)) ?_
        repeat' ((with_reducible fail_if_success show Wp _ _ 59 _ _ _ _); (first
      | (with_reducible refine Wp.lt (by omega) (by omega) (fun _ => ?_) (fun _ => ?_) <;> try (exfalso; omega))
      | (with_reducible refine Wp.le (by omega) (by omega) (fun _ => ?_) (fun _ => ?_) <;> try (exfalso; omega))
      | (with_reducible refine Wp.eq (by omega) (by omega) (fun _ => ?_) (fun _ => ?_) <;> try (exfalso; omega))
      | (with_reducible refine Wp.ne (by omega) (by omega) (fun _ => ?_) (fun _ => ?_) <;> try (exfalso; omega))
      | with_reducible refine Wp.lt0 (by omega) ?_
      | with_reducible refine Wp.ge0 (by omega) ?_
      | (with_reducible refine Wp.bz (fun _ => ?_) (fun _ => ?_) <;> try contradiction)
      | (with_reducible refine Wp.bn (fun _ => ?_) (fun _ => ?_) <;> try contradiction)
      | (with_reducible refine Wp.br (fun _ => ?_) (fun _ => ?_) <;> try contradiction)
      | refine Wp.gik rfl (by assumption) (by with_reducible assumption) ?_
      | refine Wp.gi rfl (by assumption) ?_
      | refine Wp.gz rfl (by assumption) ?_
      | refine Wp.gr rfl (by assumption) (by assumption) ?_
      | refine Wp.gn rfl (by assumption) (by assumption) ?_
      | refine Wp.gl rfl (by assumption) ?_
      | refine Wp.addn rfl (by with_reducible rfl) (by with_reducible rfl) ?_
      | refine Wp.muln rfl (by with_reducible rfl) (by with_reducible rfl) ?_
      | refine Wp.subn rfl (by with_reducible rfl) (by with_reducible rfl) (by omega) ?_
      | (refine Wp.decn rfl rfl ?_; dsimp only [List.set])
      | (refine Wp.incn rfl rfl ?_; dsimp only [List.set])
      | (refine Wp.go rfl rfl ?_; try dsimp only [List.set])
      | refine Wp.pi rfl (by assumption) ?_
      | refine Wp.pr rfl (by assumption) ?_
      | refine Wp.pn rfl (by assumption) ?_
      | refine Wp.pl rfl (by assumption) ?_
      | refine Wp.aik rfl (by assumption) rfl (by first | with_reducible rfl | with_reducible assumption) (by omega) (by with_reducible assumption) ?_
      | refine Wp.aiN rfl (by assumption) rfl (by first | with_reducible rfl | with_reducible assumption) (by omega) ?_
      | refine Wp.siN rfl (by assumption) rfl (by first | with_reducible rfl | with_reducible assumption) (by omega) ?_
      | refine Wp.rt rfl rfl rfl rfl ?_
      | refine Wp.rz rfl rfl (by decide) ?_))
        refine Wp.V0i rfl p1 rfl (w_oth (d + 2) h hr) ?_
        repeat' ((with_reducible fail_if_success show Wp _ _ 68 _ _ _ _); (first
      | (with_reducible refine Wp.lt (by omega) (by omega) (fun _ => ?_) (fun _ => ?_) <;> try (exfalso; omega))
      | (with_reducible refine Wp.le (by omega) (by omega) (fun _ => ?_) (fun _ => ?_) <;> try (exfalso; omega))
      | (with_reducible refine Wp.eq (by omega) (by omega) (fun _ => ?_) (fun _ => ?_) <;> try (exfalso; omega))
      | (with_reducible refine Wp.ne (by omega) (by omega) (fun _ => ?_) (fun _ => ?_) <;> try (exfalso; omega))
      | with_reducible refine Wp.lt0 (by omega) ?_
      | with_reducible refine Wp.ge0 (by omega) ?_
      | (with_reducible refine Wp.bz (fun _ => ?_) (fun _ => ?_) <;> try contradiction)
      | (with_reducible refine Wp.bn (fun _ => ?_) (fun _ => ?_) <;> try contradiction)
      | (with_reducible refine Wp.br (fun _ => ?_) (fun _ => ?_) <;> try contradiction)
      | refine Wp.gik rfl (by assumption) (by with_reducible assumption) ?_
      | refine Wp.gi rfl (by assumption) ?_
      | refine Wp.gz rfl (by assumption) ?_
      | refine Wp.gr rfl (by assumption) (by assumption) ?_
      | refine Wp.gn rfl (by assumption) (by assumption) ?_
      | refine Wp.gl rfl (by assumption) ?_
      | refine Wp.addn rfl (by with_reducible rfl) (by with_reducible rfl) ?_
      | refine Wp.muln rfl (by with_reducible rfl) (by with_reducible rfl) ?_
      | refine Wp.subn rfl (by with_reducible rfl) (by with_reducible rfl) (by omega) ?_
      | (refine Wp.decn rfl rfl ?_; dsimp only [List.set])
      | (refine Wp.incn rfl rfl ?_; dsimp only [List.set])
      | (refine Wp.go rfl rfl ?_; try dsimp only [List.set])
      | refine Wp.pi rfl (by assumption) ?_
      | refine Wp.pr rfl (by assumption) ?_
      | refine Wp.pn rfl (by assumption) ?_
      | refine Wp.pl rfl (by assumption) ?_
      | refine Wp.aik rfl (by assumption) rfl (by first | with_reducible rfl | with_reducible assumption) (by omega) (by with_reducible assumption) ?_
      | refine Wp.aiN rfl (by assumption) rfl (by first | with_reducible rfl | with_reducible assumption) (by omega) ?_
      | refine Wp.siN rfl (by assumption) rfl (by first | with_reducible rfl | with_reducible assumption) (by omega) ?_
      | refine Wp.rt rfl rfl rfl rfl ?_
      | refine Wp.rz rfl rfl (by decide) ?_))
        refine Wp.V1i rfl g3 rfl (k_cvoters (d + 1) M1.2.1 (Z := zO M1) (by omega) (h.cK hr)).ev0 ?_
        have ev : c_cvf M1.2.1 (9 + 13 * r + 6) (e + 1 + m) = c_cvf (c_rps C r e m).1 (9 + 13 * r + 6) (e + 1 + m) := by
          simp (disch := omega) only [c_cvf, h.1]
        rw [ev]
        have eb : M1.2.1 (9 + 13 * r + 6) 0 = (c_rps C r e m).1 (9 + 13 * r + 6) 0 := h.1 _ _ (by omega)
        repeat' ((with_reducible fail_if_success show Wp _ _ 94 _ _ _ _); (first
      | (with_reducible refine Wp.lt (by omega) (by omega) (fun _ => ?_) (fun _ => ?_) <;> try (exfalso; omega))
      | (with_reducible refine Wp.le (by omega) (by omega) (fun _ => ?_) (fun _ => ?_) <;> try (exfalso; omega))
      | (with_reducible refine Wp.eq (by omega) (by omega) (fun _ => ?_) (fun _ => ?_) <;> try (exfalso; omega))
      | (with_reducible refine Wp.ne (by omega) (by omega) (fun _ => ?_) (fun _ => ?_) <;> try (exfalso; omega))
      | with_reducible refine Wp.lt0 (by omega) ?_
      | with_reducible refine Wp.ge0 (by omega) ?_
      | (with_reducible refine Wp.bz (fun _ => ?_) (fun _ => ?_) <;> try contradiction)
      | (with_reducible refine Wp.bn (fun _ => ?_) (fun _ => ?_) <;> try contradiction)
      | (with_reducible refine Wp.br (fun _ => ?_) (fun _ => ?_) <;> try contradiction)
      | refine Wp.gik rfl (by assumption) (by with_reducible assumption) ?_
      | refine Wp.gi rfl (by assumption) ?_
      | refine Wp.gz rfl (by assumption) ?_
      | refine Wp.gr rfl (by assumption) (by assumption) ?_
      | refine Wp.gn rfl (by assumption) (by assumption) ?_
      | refine Wp.gl rfl (by assumption) ?_
      | refine Wp.addn rfl (by with_reducible rfl) (by with_reducible rfl) ?_
      | refine Wp.muln rfl (by with_reducible rfl) (by with_reducible rfl) ?_
      | refine Wp.subn rfl (by with_reducible rfl) (by with_reducible rfl) (by omega) ?_
      | (refine Wp.decn rfl rfl ?_; dsimp only [List.set])
      | (refine Wp.incn rfl rfl ?_; dsimp only [List.set])
      | (refine Wp.go rfl rfl ?_; try dsimp only [List.set])
      | refine Wp.pi rfl (by assumption) ?_
      | refine Wp.pr rfl (by assumption) ?_
      | refine Wp.pn rfl (by assumption) ?_
      | refine Wp.pl rfl (by assumption) ?_
      | refine Wp.aik rfl (by assumption) rfl (by first | with_reducible rfl | with_reducible assumption) (by omega) (by with_reducible assumption) ?_
      | refine Wp.aiN rfl (by assumption) rfl (by first | with_reducible rfl | with_reducible assumption) (by omega) ?_
      | refine Wp.siN rfl (by assumption) rfl (by first | with_reducible rfl | with_reducible assumption) (by omega) ?_
      | refine Wp.rt rfl rfl rfl rfl ?_
      | refine Wp.rz rfl rfl (by decide) ?_))
        refine Wp.V1i rfl g7 rfl (w_cat (d + 1) h (by omega) (h.oK hr) (by omega)) ?_
        refine Wp.V5 rfl p1 rfl (k_send d hr _ (nI 3) _ (nI (e + 1 + m)) _ h) (fun M' v hq' => ?_)
        obtain ⟨k1, k2, rfl⟩ := hq'
        show Wp (d + 3) 36 100 _ [] M' Q
        repeat' ((with_reducible fail_if_success show Wp _ _ 20 _ _ _ _); (first
      | (with_reducible refine Wp.lt (by omega) (by omega) (fun _ => ?_) (fun _ => ?_) <;> try (exfalso; omega))
      | (with_reducible refine Wp.le (by omega) (by omega) (fun _ => ?_) (fun _ => ?_) <;> try (exfalso; omega))
      | (with_reducible refine Wp.eq (by omega) (by omega) (fun _ => ?_) (fun _ => ?_) <;> try (exfalso; omega))
      | (with_reducible refine Wp.ne (by omega) (by omega) (fun _ => ?_) (fun _ => ?_) <;> try (exfalso; omega))
      | with_reducible refine Wp.lt0 (by omega) ?_
      | with_reducible refine Wp.ge0 (by omega) ?_
      | (with_reducible refine Wp.bz (fun _ => ?_) (fun _ => ?_) <;> try contradiction)
      | (with_reducible refine Wp.bn (fun _ => ?_) (fun _ => ?_) <;> try contradiction)
      | (with_reducible refine Wp.br (fun _ => ?_) (fun _ => ?_) <;> try contradiction)
      | refine Wp.gik rfl (by assumption) (by with_reducible assumption) ?_
      | refine Wp.gi rfl (by assumption) ?_
      | refine Wp.gz rfl (by assumption) ?_
      | refine Wp.gr rfl (by assumption) (by assumption) ?_
      | refine Wp.gn rfl (by assumption) (by assumption) ?_
      | refine Wp.gl rfl (by assumption) ?_
      | refine Wp.addn rfl (by with_reducible rfl) (by with_reducible rfl) ?_
      | refine Wp.muln rfl (by with_reducible rfl) (by with_reducible rfl) ?_
      | refine Wp.subn rfl (by with_reducible rfl) (by with_reducible rfl) (by omega) ?_
      | (refine Wp.decn rfl rfl ?_; dsimp only [List.set])
      | (refine Wp.incn rfl rfl ?_; dsimp only [List.set])
      | (refine Wp.go rfl rfl ?_; try dsimp only [List.set])
      | refine Wp.pi rfl (by assumption) ?_
      | refine Wp.pr rfl (by assumption) ?_
      | refine Wp.pn rfl (by assumption) ?_
      | refine Wp.pl rfl (by assumption) ?_
      | refine Wp.aik rfl (by assumption) rfl (by first | with_reducible rfl | with_reducible assumption) (by omega) (by with_reducible assumption) ?_
      | refine Wp.aiN rfl (by assumption) rfl (by first | with_reducible rfl | with_reducible assumption) (by omega) ?_
      | refine Wp.siN rfl (by assumption) rfl (by first | with_reducible rfl | with_reducible assumption) (by omega) ?_
      | refine Wp.rt rfl rfl rfl rfl ?_
      | refine Wp.rz rfl rfl (by decide) ?_))
        exact key M' _ k1 (he.trans k2) hq
set_option maxHeartbeats 4000000 in
theorem k_rep (d : Nat) (h : Rp M C) (hr : r < 5) : Ev (d + 4) 36 M [.ref (9 + 13 * r)] (fun M' v => Rp M' (c_rps C r (sl (C.2.1 r)) 3) ∧ Ext 15 M M' ∧ v = none) := by
  obtain ⟨p1, p2, p3, p4, p5, p6⟩ := h.f hr
  obtain ⟨t, t1, t2⟩ := h.hp hr
  obtain ⟨e1, e2, e3⟩ := t2.f
  refine Ev.of (ls := [some (.ref (9 + 13 * r)), none, none, none]) rfl rfl ?_
  repeat' ((with_reducible fail_if_success show Wp _ _ 20 _ _ _ _); (first
      | (with_reducible refine Wp.lt (by omega) (by omega) (fun _ => ?_) (fun _ => ?_) <;> try (exfalso; omega))
      | (with_reducible refine Wp.le (by omega) (by omega) (fun _ => ?_) (fun _ => ?_) <;> try (exfalso; omega))
      | (with_reducible refine Wp.eq (by omega) (by omega) (fun _ => ?_) (fun _ => ?_) <;> try (exfalso; omega))
      | (with_reducible refine Wp.ne (by omega) (by omega) (fun _ => ?_) (fun _ => ?_) <;> try (exfalso; omega))
      | with_reducible refine Wp.lt0 (by omega) ?_
      | with_reducible refine Wp.ge0 (by omega) ?_
      | (with_reducible refine Wp.bz (fun _ => ?_) (fun _ => ?_) <;> try contradiction)
      | (with_reducible refine Wp.bn (fun _ => ?_) (fun _ => ?_) <;> try contradiction)
      | (with_reducible refine Wp.br (fun _ => ?_) (fun _ => ?_) <;> try contradiction)
      | refine Wp.gik rfl (by assumption) (by with_reducible assumption) ?_
      | refine Wp.gi rfl (by assumption) ?_
      | refine Wp.gz rfl (by assumption) ?_
      | refine Wp.gr rfl (by assumption) (by assumption) ?_
      | refine Wp.gn rfl (by assumption) (by assumption) ?_
      | refine Wp.gl rfl (by assumption) ?_
      | refine Wp.addn rfl (by with_reducible rfl) (by with_reducible rfl) ?_
      | refine Wp.muln rfl (by with_reducible rfl) (by with_reducible rfl) ?_
      | refine Wp.subn rfl (by with_reducible rfl) (by with_reducible rfl) (by omega) ?_
      | (refine Wp.decn rfl rfl ?_; dsimp only [List.set])
      | (refine Wp.incn rfl rfl ?_; dsimp only [List.set])
      | (refine Wp.go rfl rfl ?_; try dsimp only [List.set])
      | refine Wp.pi rfl (by assumption) ?_
      | refine Wp.pr rfl (by assumption) ?_
      | refine Wp.pn rfl (by assumption) ?_
      | refine Wp.pl rfl (by assumption) ?_
      | refine Wp.aik rfl (by assumption) rfl (by first | with_reducible rfl | with_reducible assumption) (by omega) (by with_reducible assumption) ?_
      | refine Wp.aiN rfl (by assumption) rfl (by first | with_reducible rfl | with_reducible assumption) (by omega) ?_
      | refine Wp.siN rfl (by assumption) rfl (by first | with_reducible rfl | with_reducible assumption) (by omega) ?_
      | refine Wp.rt rfl rfl rfl rfl ?_
      | refine Wp.rz rfl rfl (by decide) ?_))
  exact k_rep1 d hr e3 _ rfl 3 0 M none rfl h (Ext.refl M) (fun M2 j1 j2 => ⟨j1, j2, rfl⟩)
set_option maxHeartbeats 4000000 in
theorem k_strike (d : Nat) (h : Rp M C) (hr : r < 5) {p : Nat} (hp : C.1 (9 + 13 * r) 4 = nI p) (hp2 : p ≤ 400000) : Ev (d + 6) 35 M [.ref (9 + 13 * r)] (fun M' v => Rp M' (c_str C r p) ∧ Ext 20 M M' ∧ v = none) := by
  obtain ⟨p1, p2, p3, p4, p5, p6⟩ := h.f hr
  obtain ⟨g1, g2, g3, g4, g5, g6, g7⟩ := h.g hr
  obtain ⟨t, t1, t2⟩ := h.hp hr
  obtain ⟨e1, e2, e3⟩ := t2.f
  have hi := h.i hr
  have hpr : M.2.1 (9 + 13 * r) 4 = nI p := (h.1 _ _ (by omega)).trans hp
  have hb : M.2.1 (9 + 13 * r + 6) 0 = C.1 (9 + 13 * r + 6) 0 := h.1 _ _ (by omega)
  have hb1 : M.2.1 (9 + 13 * r + 6) 1 = C.1 (9 + 13 * r + 6) 1 := h.1 _ _ (by omega)
  refine Ev.of (ls := [some (.ref (9 + 13 * r)), none]) rfl rfl ?_
  repeat' ((with_reducible fail_if_success show Wp _ _ 4 _ _ _ _); (first
      | (with_reducible refine Wp.lt (by omega) (by omega) (fun _ => ?_) (fun _ => ?_) <;> try (exfalso; omega))
      | (with_reducible refine Wp.le (by omega) (by omega) (fun _ => ?_) (fun _ => ?_) <;> try (exfalso; omega))
      | (with_reducible refine Wp.eq (by omega) (by omega) (fun _ => ?_) (fun _ => ?_) <;> try (exfalso; omega))
      | (with_reducible refine Wp.ne (by omega) (by omega) (fun _ => ?_) (fun _ => ?_) <;> try (exfalso; omega))
      | with_reducible refine Wp.lt0 (by omega) ?_
      | with_reducible refine Wp.ge0 (by omega) ?_
      | (with_reducible refine Wp.bz (fun _ => ?_) (fun _ => ?_) <;> try contradiction)
      | (with_reducible refine Wp.bn (fun _ => ?_) (fun _ => ?_) <;> try contradiction)
      | (with_reducible refine Wp.br (fun _ => ?_) (fun _ => ?_) <;> try contradiction)
      | refine Wp.gik rfl (by assumption) (by with_reducible assumption) ?_
      | refine Wp.gi rfl (by assumption) ?_
      | refine Wp.gz rfl (by assumption) ?_
      | refine Wp.gr rfl (by assumption) (by assumption) ?_
      | refine Wp.gn rfl (by assumption) (by assumption) ?_
      | refine Wp.gl rfl (by assumption) ?_
      | refine Wp.addn rfl (by with_reducible rfl) (by with_reducible rfl) ?_
      | refine Wp.muln rfl (by with_reducible rfl) (by with_reducible rfl) ?_
      | refine Wp.subn rfl (by with_reducible rfl) (by with_reducible rfl) (by omega) ?_
      | (refine Wp.decn rfl rfl ?_; dsimp only [List.set])
      | (refine Wp.incn rfl rfl ?_; dsimp only [List.set])
      | (refine Wp.go rfl rfl ?_; try dsimp only [List.set])
      | refine Wp.pi rfl (by assumption) ?_
      | refine Wp.pr rfl (by assumption) ?_
      | refine Wp.pn rfl (by assumption) ?_
      | refine Wp.pl rfl (by assumption) ?_
      | refine Wp.aik rfl (by assumption) rfl (by first | with_reducible rfl | with_reducible assumption) (by omega) (by with_reducible assumption) ?_
      | refine Wp.aiN rfl (by assumption) rfl (by first | with_reducible rfl | with_reducible assumption) (by omega) ?_
      | refine Wp.siN rfl (by assumption) rfl (by first | with_reducible rfl | with_reducible assumption) (by omega) ?_
      | refine Wp.rt rfl rfl rfl rfl ?_
      | refine Wp.rz rfl rfl (by decide) ?_))
  refine Wp.V0i rfl e1 rfl (w_ahead (d + 4) t2) ?_
  repeat' ((with_reducible fail_if_success show Wp _ _ 8 _ _ _ _); (first
      | (with_reducible refine Wp.lt (by omega) (by omega) (fun _ => ?_) (fun _ => ?_) <;> try (exfalso; omega))
      | (with_reducible refine Wp.le (by omega) (by omega) (fun _ => ?_) (fun _ => ?_) <;> try (exfalso; omega))
      | (with_reducible refine Wp.eq (by omega) (by omega) (fun _ => ?_) (fun _ => ?_) <;> try (exfalso; omega))
      | (with_reducible refine Wp.ne (by omega) (by omega) (fun _ => ?_) (fun _ => ?_) <;> try (exfalso; omega))
      | with_reducible refine Wp.lt0 (by omega) ?_
      | with_reducible refine Wp.ge0 (by omega) ?_
      | (with_reducible refine Wp.bz (fun _ => ?_) (fun _ => ?_) <;> try contradiction)
      | (with_reducible refine Wp.bn (fun _ => ?_) (fun _ => ?_) <;> try contradiction)
      | (with_reducible refine Wp.br (fun _ => ?_) (fun _ => ?_) <;> try contradiction)
      | refine Wp.gik rfl (by assumption) (by with_reducible assumption) ?_
      | refine Wp.gi rfl (by assumption) ?_
      | refine Wp.gz rfl (by assumption) ?_
      | refine Wp.gr rfl (by assumption) (by assumption) ?_
      | refine Wp.gn rfl (by assumption) (by assumption) ?_
      | refine Wp.gl rfl (by assumption) ?_
      | refine Wp.addn rfl (by with_reducible rfl) (by with_reducible rfl) ?_
      | refine Wp.muln rfl (by with_reducible rfl) (by with_reducible rfl) ?_
      | refine Wp.subn rfl (by with_reducible rfl) (by with_reducible rfl) (by omega) ?_
      | (refine Wp.decn rfl rfl ?_; dsimp only [List.set])
      | (refine Wp.incn rfl rfl ?_; dsimp only [List.set])
      | (refine Wp.go rfl rfl ?_; try dsimp only [List.set])
      | refine Wp.pi rfl (by assumption) ?_
      | refine Wp.pr rfl (by assumption) ?_
      | refine Wp.pn rfl (by assumption) ?_
      | refine Wp.pl rfl (by assumption) ?_
      | refine Wp.aik rfl (by assumption) rfl (by first | with_reducible rfl | with_reducible assumption) (by omega) (by with_reducible assumption) ?_
      | refine Wp.aiN rfl (by assumption) rfl (by first | with_reducible rfl | with_reducible assumption) (by omega) ?_
      | refine Wp.siN rfl (by assumption) rfl (by first | with_reducible rfl | with_reducible assumption) (by omega) ?_
      | refine Wp.rt rfl rfl rfl rfl ?_
      | refine Wp.rz rfl rfl (by decide) ?_))
  refine Wp.V0i rfl p1 rfl (w_oth (d + 4) h hr) ?_
  repeat' ((with_reducible fail_if_success show Wp _ _ 14 _ _ _ _); (first
      | (with_reducible refine Wp.lt (by omega) (by omega) (fun _ => ?_) (fun _ => ?_) <;> try (exfalso; omega))
      | (with_reducible refine Wp.le (by omega) (by omega) (fun _ => ?_) (fun _ => ?_) <;> try (exfalso; omega))
      | (with_reducible refine Wp.eq (by omega) (by omega) (fun _ => ?_) (fun _ => ?_) <;> try (exfalso; omega))
      | (with_reducible refine Wp.ne (by omega) (by omega) (fun _ => ?_) (fun _ => ?_) <;> try (exfalso; omega))
      | with_reducible refine Wp.lt0 (by omega) ?_
      | with_reducible refine Wp.ge0 (by omega) ?_
      | (with_reducible refine Wp.bz (fun _ => ?_) (fun _ => ?_) <;> try contradiction)
      | (with_reducible refine Wp.bn (fun _ => ?_) (fun _ => ?_) <;> try contradiction)
      | (with_reducible refine Wp.br (fun _ => ?_) (fun _ => ?_) <;> try contradiction)
      | refine Wp.gik rfl (by assumption) (by with_reducible assumption) ?_
      | refine Wp.gi rfl (by assumption) ?_
      | refine Wp.gz rfl (by assumption) ?_
      | refine Wp.gr rfl (by assumption) (by assumption) ?_
      | refine Wp.gn rfl (by assumption) (by assumption) ?_
      | refine Wp.gl rfl (by assumption) ?_
      | refine Wp.addn rfl (by with_reducible rfl) (by with_reducible rfl) ?_
      | refine Wp.muln rfl (by with_reducible rfl) (by with_reducible rfl) ?_
      | refine Wp.subn rfl (by with_reducible rfl) (by with_reducible rfl) (by omega) ?_
      | (refine Wp.decn rfl rfl ?_; dsimp only [List.set])
      | (refine Wp.incn rfl rfl ?_; dsimp only [List.set])
      | (refine Wp.go rfl rfl ?_; try dsimp only [List.set])
      | refine Wp.pi rfl (by assumption) ?_
      | refine Wp.pr rfl (by assumption) ?_
      | refine Wp.pn rfl (by assumption) ?_
      | refine Wp.pl rfl (by assumption) ?_
      | refine Wp.aik rfl (by assumption) rfl (by first | with_reducible rfl | with_reducible assumption) (by omega) (by with_reducible assumption) ?_
      | refine Wp.aiN rfl (by assumption) rfl (by first | with_reducible rfl | with_reducible assumption) (by omega) ?_
      | refine Wp.siN rfl (by assumption) rfl (by first | with_reducible rfl | with_reducible assumption) (by omega) ?_
      | refine Wp.rt rfl rfl rfl rfl ?_
      | refine Wp.rz rfl rfl (by decide) ?_))
  refine Wp.V0i rfl p1 rfl (w_camps (d + 4) h hr) ?_
  iterate 2 (first
      | (with_reducible refine Wp.lt (by omega) (by omega) (fun _ => ?_) (fun _ => ?_) <;> try (exfalso; omega))
      | (with_reducible refine Wp.le (by omega) (by omega) (fun _ => ?_) (fun _ => ?_) <;> try (exfalso; omega))
      | (with_reducible refine Wp.eq (by omega) (by omega) (fun _ => ?_) (fun _ => ?_) <;> try (exfalso; omega))
      | (with_reducible refine Wp.ne (by omega) (by omega) (fun _ => ?_) (fun _ => ?_) <;> try (exfalso; omega))
      | with_reducible refine Wp.lt0 (by omega) ?_
      | with_reducible refine Wp.ge0 (by omega) ?_
      | (with_reducible refine Wp.bz (fun _ => ?_) (fun _ => ?_) <;> try contradiction)
      | (with_reducible refine Wp.bn (fun _ => ?_) (fun _ => ?_) <;> try contradiction)
      | (with_reducible refine Wp.br (fun _ => ?_) (fun _ => ?_) <;> try contradiction)
      | refine Wp.gik rfl (by assumption) (by with_reducible assumption) ?_
      | refine Wp.gi rfl (by assumption) ?_
      | refine Wp.gz rfl (by assumption) ?_
      | refine Wp.gr rfl (by assumption) (by assumption) ?_
      | refine Wp.gn rfl (by assumption) (by assumption) ?_
      | refine Wp.gl rfl (by assumption) ?_
      | refine Wp.addn rfl (by with_reducible rfl) (by with_reducible rfl) ?_
      | refine Wp.muln rfl (by with_reducible rfl) (by with_reducible rfl) ?_
      | refine Wp.subn rfl (by with_reducible rfl) (by with_reducible rfl) (by omega) ?_
      | (refine Wp.decn rfl rfl ?_; dsimp only [List.set])
      | (refine Wp.incn rfl rfl ?_; dsimp only [List.set])
      | (refine Wp.go rfl rfl ?_; try dsimp only [List.set])
      | refine Wp.pi rfl (by assumption) ?_
      | refine Wp.pr rfl (by assumption) ?_
      | refine Wp.pn rfl (by assumption) ?_
      | refine Wp.pl rfl (by assumption) ?_
      | refine Wp.aik rfl (by assumption) rfl (by first | with_reducible rfl | with_reducible assumption) (by omega) (by with_reducible assumption) ?_
      | refine Wp.aiN rfl (by assumption) rfl (by first | with_reducible rfl | with_reducible assumption) (by omega) ?_
      | refine Wp.siN rfl (by assumption) rfl (by first | with_reducible rfl | with_reducible assumption) (by omega) ?_
      | refine Wp.rt rfl rfl rfl rfl ?_
      | refine Wp.rz rfl rfl (by decide) ?_)
  · rename_i hc
    rw [c_str, if_neg (by rw [hc]; decide)]
    repeat' ((with_reducible fail_if_success show Wp _ _ 58 _ _ _ _); (first
      | (with_reducible refine Wp.lt (by omega) (by omega) (fun _ => ?_) (fun _ => ?_) <;> try (exfalso; omega))
      | (with_reducible refine Wp.le (by omega) (by omega) (fun _ => ?_) (fun _ => ?_) <;> try (exfalso; omega))
      | (with_reducible refine Wp.eq (by omega) (by omega) (fun _ => ?_) (fun _ => ?_) <;> try (exfalso; omega))
      | (with_reducible refine Wp.ne (by omega) (by omega) (fun _ => ?_) (fun _ => ?_) <;> try (exfalso; omega))
      | with_reducible refine Wp.lt0 (by omega) ?_
      | with_reducible refine Wp.ge0 (by omega) ?_
      | (with_reducible refine Wp.bz (fun _ => ?_) (fun _ => ?_) <;> try contradiction)
      | (with_reducible refine Wp.bn (fun _ => ?_) (fun _ => ?_) <;> try contradiction)
      | (with_reducible refine Wp.br (fun _ => ?_) (fun _ => ?_) <;> try contradiction)
      | refine Wp.gik rfl (by assumption) (by with_reducible assumption) ?_
      | refine Wp.gi rfl (by assumption) ?_
      | refine Wp.gz rfl (by assumption) ?_
      | refine Wp.gr rfl (by assumption) (by assumption) ?_
      | refine Wp.gn rfl (by assumption) (by assumption) ?_
      | refine Wp.gl rfl (by assumption) ?_
      | refine Wp.addn rfl (by with_reducible rfl) (by with_reducible rfl) ?_
      | refine Wp.muln rfl (by with_reducible rfl) (by with_reducible rfl) ?_
      | refine Wp.subn rfl (by with_reducible rfl) (by with_reducible rfl) (by omega) ?_
      | (refine Wp.decn rfl rfl ?_; dsimp only [List.set])
      | (refine Wp.incn rfl rfl ?_; dsimp only [List.set])
      | (refine Wp.go rfl rfl ?_; try dsimp only [List.set])
      | refine Wp.pi rfl (by assumption) ?_
      | refine Wp.pr rfl (by assumption) ?_
      | refine Wp.pn rfl (by assumption) ?_
      | refine Wp.pl rfl (by assumption) ?_
      | refine Wp.aik rfl (by assumption) rfl (by first | with_reducible rfl | with_reducible assumption) (by omega) (by with_reducible assumption) ?_
      | refine Wp.aiN rfl (by assumption) rfl (by first | with_reducible rfl | with_reducible assumption) (by omega) ?_
      | refine Wp.siN rfl (by assumption) rfl (by first | with_reducible rfl | with_reducible assumption) (by omega) ?_
      | refine Wp.rt rfl rfl rfl rfl ?_
      | refine Wp.rz rfl rfl (by decide) ?_))
    refine Wp.V1i rfl p1 rfl (k_least (d + 3) M.2.1 (Z := zO M) (h.k hr) hi hr hp2).ev0 ?_
    have hi' : x_u M.2.1 (9 + 13 * r) 4 (nI (f_bal p r)) (9 + 13 * r) 0 = nI r := (x_u_ne _ _ (by omega)).trans hi
    have hp' : x_u M.2.1 (9 + 13 * r) 4 (nI (f_bal p r)) (9 + 13 * r) 4 = nI (f_bal p r) := x_u_eq _ _ _ _
    repeat' ((with_reducible fail_if_success show Wp _ _ 82 _ _ _ _); (first
      | (with_reducible refine Wp.lt (by omega) (by omega) (fun _ => ?_) (fun _ => ?_) <;> try (exfalso; omega))
      | (with_reducible refine Wp.le (by omega) (by omega) (fun _ => ?_) (fun _ => ?_) <;> try (exfalso; omega))
      | (with_reducible refine Wp.eq (by omega) (by omega) (fun _ => ?_) (fun _ => ?_) <;> try (exfalso; omega))
      | (with_reducible refine Wp.ne (by omega) (by omega) (fun _ => ?_) (fun _ => ?_) <;> try (exfalso; omega))
      | with_reducible refine Wp.lt0 (by omega) ?_
      | with_reducible refine Wp.ge0 (by omega) ?_
      | (with_reducible refine Wp.bz (fun _ => ?_) (fun _ => ?_) <;> try contradiction)
      | (with_reducible refine Wp.bn (fun _ => ?_) (fun _ => ?_) <;> try contradiction)
      | (with_reducible refine Wp.br (fun _ => ?_) (fun _ => ?_) <;> try contradiction)
      | refine Wp.gik rfl (by assumption) (by with_reducible assumption) ?_
      | refine Wp.gi rfl (by assumption) ?_
      | refine Wp.gz rfl (by assumption) ?_
      | refine Wp.gr rfl (by assumption) (by assumption) ?_
      | refine Wp.gn rfl (by assumption) (by assumption) ?_
      | refine Wp.gl rfl (by assumption) ?_
      | refine Wp.addn rfl (by with_reducible rfl) (by with_reducible rfl) ?_
      | refine Wp.muln rfl (by with_reducible rfl) (by with_reducible rfl) ?_
      | refine Wp.subn rfl (by with_reducible rfl) (by with_reducible rfl) (by omega) ?_
      | (refine Wp.decn rfl rfl ?_; dsimp only [List.set])
      | (refine Wp.incn rfl rfl ?_; dsimp only [List.set])
      | (refine Wp.go rfl rfl ?_; try dsimp only [List.set])
      | refine Wp.pi rfl (by assumption) ?_
      | refine Wp.pr rfl (by assumption) ?_
      | refine Wp.pn rfl (by assumption) ?_
      | refine Wp.pl rfl (by assumption) ?_
      | refine Wp.aik rfl (by assumption) rfl (by first | with_reducible rfl | with_reducible assumption) (by omega) (by with_reducible assumption) ?_
      | refine Wp.aiN rfl (by assumption) rfl (by first | with_reducible rfl | with_reducible assumption) (by omega) ?_
      | refine Wp.siN rfl (by assumption) rfl (by first | with_reducible rfl | with_reducible assumption) (by omega) ?_
      | refine Wp.rt rfl rfl rfl rfl ?_
      | refine Wp.rz rfl rfl (by decide) ?_))
    refine Wp.V3v rfl g3 rfl (ER.ev (M := (M.1, x_u M.2.1 (9 + 13 * r) 4 (nI (f_bal p r)), M.2.2)) (k_cbegin d (x_u M.2.1 (9 + 13 * r) 4 (nI (f_bal p r))) (Z := zO M) (nI (f_bal p r)) (nI 1 <<< (nI r &&& 31)) (h.vK hr) (by omega) (h.cK hr))) ?_
    have hu1 := (Iu.of h).u (a := 9 + 13 * r) (i := 4) (nI (f_bal p r)) (by omega) (by omega) (fun q => by omega)
    have hu2 := ((((hu1.u (a := 9 + 13 * r + 6) (i := 0) (nI (f_bal p r)) (by omega) (by omega) (fun _ _ _ => by omega)).u (a := 9 + 13 * r + 6) (i := 1) (nI 1 <<< (nI r &&& 31)) (by omega) (by omega) (fun _ _ _ => by omega)).fg (a := 9 + 13 * r + 6 + 2) 24 0 (by omega) (by omega)).mg (v := 9 + 13 * r + 6 + 1) (w := 9 + 13 * r + 1) (by omega) (by omega) (by omega)).fg (a := 9 + 13 * r + 6 + 5) 24 (-1) (by omega) (by omega)
    have hn := hu2.rp h
    have hb' : c_cbg (x_u M.2.1 (9 + 13 * r) 4 (nI (f_bal p r))) (9 + 13 * r + 6) (9 + 13 * r + 1) (nI (f_bal p r)) (nI 1 <<< (nI r &&& 31)) (9 + 13 * r + 6) 0 = nI (f_bal p r) := by
      rw [c_cbg, c_fg, f_fillF_o _ _ _ _ _ (by omega), c_mg_o _ (by omega), c_fg, f_fillF_o _ _ _ _ _ (by omega), x_u_ne _ _ (by omega), x_u_eq]
    repeat' ((with_reducible fail_if_success show Wp _ _ 97 _ _ _ _); (first
      | (with_reducible refine Wp.lt (by omega) (by omega) (fun _ => ?_) (fun _ => ?_) <;> try (exfalso; omega))
      | (with_reducible refine Wp.le (by omega) (by omega) (fun _ => ?_) (fun _ => ?_) <;> try (exfalso; omega))
      | (with_reducible refine Wp.eq (by omega) (by omega) (fun _ => ?_) (fun _ => ?_) <;> try (exfalso; omega))
      | (with_reducible refine Wp.ne (by omega) (by omega) (fun _ => ?_) (fun _ => ?_) <;> try (exfalso; omega))
      | with_reducible refine Wp.lt0 (by omega) ?_
      | with_reducible refine Wp.ge0 (by omega) ?_
      | (with_reducible refine Wp.bz (fun _ => ?_) (fun _ => ?_) <;> try contradiction)
      | (with_reducible refine Wp.bn (fun _ => ?_) (fun _ => ?_) <;> try contradiction)
      | (with_reducible refine Wp.br (fun _ => ?_) (fun _ => ?_) <;> try contradiction)
      | refine Wp.gik rfl (by assumption) (by with_reducible assumption) ?_
      | refine Wp.gi rfl (by assumption) ?_
      | refine Wp.gz rfl (by assumption) ?_
      | refine Wp.gr rfl (by assumption) (by assumption) ?_
      | refine Wp.gn rfl (by assumption) (by assumption) ?_
      | refine Wp.gl rfl (by assumption) ?_
      | refine Wp.addn rfl (by with_reducible rfl) (by with_reducible rfl) ?_
      | refine Wp.muln rfl (by with_reducible rfl) (by with_reducible rfl) ?_
      | refine Wp.subn rfl (by with_reducible rfl) (by with_reducible rfl) (by omega) ?_
      | (refine Wp.decn rfl rfl ?_; dsimp only [List.set])
      | (refine Wp.incn rfl rfl ?_; dsimp only [List.set])
      | (refine Wp.go rfl rfl ?_; try dsimp only [List.set])
      | refine Wp.pi rfl (by assumption) ?_
      | refine Wp.pr rfl (by assumption) ?_
      | refine Wp.pn rfl (by assumption) ?_
      | refine Wp.pl rfl (by assumption) ?_
      | refine Wp.aik rfl (by assumption) rfl (by first | with_reducible rfl | with_reducible assumption) (by omega) (by with_reducible assumption) ?_
      | refine Wp.aiN rfl (by assumption) rfl (by first | with_reducible rfl | with_reducible assumption) (by omega) ?_
      | refine Wp.siN rfl (by assumption) rfl (by first | with_reducible rfl | with_reducible assumption) (by omega) ?_
      | refine Wp.rt rfl rfl rfl rfl ?_
      | refine Wp.rz rfl rfl (by decide) ?_))
    refine Wp.V5 rfl p1 rfl (k_send (d + 2) hr _ (nI 1) _ (nI 0) (nI 0) hn.1) (fun M' v hq' => ?_)
    obtain ⟨k1, k2, rfl⟩ := hq'
    show Wp (d + 5) 35 100 _ [] M' _
    repeat' (first
      | (with_reducible refine Wp.lt (by omega) (by omega) (fun _ => ?_) (fun _ => ?_) <;> try (exfalso; omega))
      | (with_reducible refine Wp.le (by omega) (by omega) (fun _ => ?_) (fun _ => ?_) <;> try (exfalso; omega))
      | (with_reducible refine Wp.eq (by omega) (by omega) (fun _ => ?_) (fun _ => ?_) <;> try (exfalso; omega))
      | (with_reducible refine Wp.ne (by omega) (by omega) (fun _ => ?_) (fun _ => ?_) <;> try (exfalso; omega))
      | with_reducible refine Wp.lt0 (by omega) ?_
      | with_reducible refine Wp.ge0 (by omega) ?_
      | (with_reducible refine Wp.bz (fun _ => ?_) (fun _ => ?_) <;> try contradiction)
      | (with_reducible refine Wp.bn (fun _ => ?_) (fun _ => ?_) <;> try contradiction)
      | (with_reducible refine Wp.br (fun _ => ?_) (fun _ => ?_) <;> try contradiction)
      | refine Wp.gik rfl (by assumption) (by with_reducible assumption) ?_
      | refine Wp.gi rfl (by assumption) ?_
      | refine Wp.gz rfl (by assumption) ?_
      | refine Wp.gr rfl (by assumption) (by assumption) ?_
      | refine Wp.gn rfl (by assumption) (by assumption) ?_
      | refine Wp.gl rfl (by assumption) ?_
      | refine Wp.addn rfl (by with_reducible rfl) (by with_reducible rfl) ?_
      | refine Wp.muln rfl (by with_reducible rfl) (by with_reducible rfl) ?_
      | refine Wp.subn rfl (by with_reducible rfl) (by with_reducible rfl) (by omega) ?_
      | (refine Wp.decn rfl rfl ?_; dsimp only [List.set])
      | (refine Wp.incn rfl rfl ?_; dsimp only [List.set])
      | (refine Wp.go rfl rfl ?_; try dsimp only [List.set])
      | refine Wp.pi rfl (by assumption) ?_
      | refine Wp.pr rfl (by assumption) ?_
      | refine Wp.pn rfl (by assumption) ?_
      | refine Wp.pl rfl (by assumption) ?_
      | refine Wp.aik rfl (by assumption) rfl (by first | with_reducible rfl | with_reducible assumption) (by omega) (by with_reducible assumption) ?_
      | refine Wp.aiN rfl (by assumption) rfl (by first | with_reducible rfl | with_reducible assumption) (by omega) ?_
      | refine Wp.siN rfl (by assumption) rfl (by first | with_reducible rfl | with_reducible assumption) (by omega) ?_
      | refine Wp.rt rfl rfl rfl rfl ?_
      | refine Wp.rz rfl rfl (by decide) ?_)
    exact ⟨k1, (hn.2.trans k2).up (by decide), rfl⟩
  · rename_i hc
    rw [c_str, if_pos hc]
    repeat' ((with_reducible fail_if_success show Wp _ _ 42 _ _ _ _); (first
      | (with_reducible refine Wp.lt (by omega) (by omega) (fun _ => ?_) (fun _ => ?_) <;> try (exfalso; omega))
      | (with_reducible refine Wp.le (by omega) (by omega) (fun _ => ?_) (fun _ => ?_) <;> try (exfalso; omega))
      | (with_reducible refine Wp.eq (by omega) (by omega) (fun _ => ?_) (fun _ => ?_) <;> try (exfalso; omega))
      | (with_reducible refine Wp.ne (by omega) (by omega) (fun _ => ?_) (fun _ => ?_) <;> try (exfalso; omega))
      | with_reducible refine Wp.lt0 (by omega) ?_
      | with_reducible refine Wp.ge0 (by omega) ?_
      | (with_reducible refine Wp.bz (fun _ => ?_) (fun _ => ?_) <;> try contradiction)
      | (with_reducible refine Wp.bn (fun _ => ?_) (fun _ => ?_) <;> try contradiction)
      | (with_reducible refine Wp.br (fun _ => ?_) (fun _ => ?_) <;> try contradiction)
      | refine Wp.gik rfl (by assumption) (by with_reducible assumption) ?_
      | refine Wp.gi rfl (by assumption) ?_
      | refine Wp.gz rfl (by assumption) ?_
      | refine Wp.gr rfl (by assumption) (by assumption) ?_
      | refine Wp.gn rfl (by assumption) (by assumption) ?_
      | refine Wp.gl rfl (by assumption) ?_
      | refine Wp.addn rfl (by with_reducible rfl) (by with_reducible rfl) ?_
      | refine Wp.muln rfl (by with_reducible rfl) (by with_reducible rfl) ?_
      | refine Wp.subn rfl (by with_reducible rfl) (by with_reducible rfl) (by omega) ?_
      | (refine Wp.decn rfl rfl ?_; dsimp only [List.set])
      | (refine Wp.incn rfl rfl ?_; dsimp only [List.set])
      | (refine Wp.go rfl rfl ?_; try dsimp only [List.set])
      | refine Wp.pi rfl (by assumption) ?_
      | refine Wp.pr rfl (by assumption) ?_
      | refine Wp.pn rfl (by assumption) ?_
      | refine Wp.pl rfl (by assumption) ?_
      | refine Wp.aik rfl (by assumption) rfl (by first | with_reducible rfl | with_reducible assumption) (by omega) (by with_reducible assumption) ?_
      | refine Wp.aiN rfl (by assumption) rfl (by first | with_reducible rfl | with_reducible assumption) (by omega) ?_
      | refine Wp.siN rfl (by assumption) rfl (by first | with_reducible rfl | with_reducible assumption) (by omega) ?_
      | refine Wp.rt rfl rfl rfl rfl ?_
      | refine Wp.rz rfl rfl (by decide) ?_))
    refine Wp.V5 rfl p1 rfl (k_send (d + 2) hr _ (nI 1) _ (nI 0) (nI 0) h) (fun M' v hq' => ?_)
    obtain ⟨k1, k2, rfl⟩ := hq'
    show Wp (d + 5) 35 45 _ [] M' _
    iterate 1 (first
      | (with_reducible refine Wp.lt (by omega) (by omega) (fun _ => ?_) (fun _ => ?_) <;> try (exfalso; omega))
      | (with_reducible refine Wp.le (by omega) (by omega) (fun _ => ?_) (fun _ => ?_) <;> try (exfalso; omega))
      | (with_reducible refine Wp.eq (by omega) (by omega) (fun _ => ?_) (fun _ => ?_) <;> try (exfalso; omega))
      | (with_reducible refine Wp.ne (by omega) (by omega) (fun _ => ?_) (fun _ => ?_) <;> try (exfalso; omega))
      | with_reducible refine Wp.lt0 (by omega) ?_
      | with_reducible refine Wp.ge0 (by omega) ?_
      | (with_reducible refine Wp.bz (fun _ => ?_) (fun _ => ?_) <;> try contradiction)
      | (with_reducible refine Wp.bn (fun _ => ?_) (fun _ => ?_) <;> try contradiction)
      | (with_reducible refine Wp.br (fun _ => ?_) (fun _ => ?_) <;> try contradiction)
      | refine Wp.gik rfl (by assumption) (by with_reducible assumption) ?_
      | refine Wp.gi rfl (by assumption) ?_
      | refine Wp.gz rfl (by assumption) ?_
      | refine Wp.gr rfl (by assumption) (by assumption) ?_
      | refine Wp.gn rfl (by assumption) (by assumption) ?_
      | refine Wp.gl rfl (by assumption) ?_
      | refine Wp.addn rfl (by with_reducible rfl) (by with_reducible rfl) ?_
      | refine Wp.muln rfl (by with_reducible rfl) (by with_reducible rfl) ?_
      | refine Wp.subn rfl (by with_reducible rfl) (by with_reducible rfl) (by omega) ?_
      | (refine Wp.decn rfl rfl ?_; dsimp only [List.set])
      | (refine Wp.incn rfl rfl ?_; dsimp only [List.set])
      | (refine Wp.go rfl rfl ?_; try dsimp only [List.set])
      | refine Wp.pi rfl (by assumption) ?_
      | refine Wp.pr rfl (by assumption) ?_
      | refine Wp.pn rfl (by assumption) ?_
      | refine Wp.pl rfl (by assumption) ?_
      | refine Wp.aik rfl (by assumption) rfl (by first | with_reducible rfl | with_reducible assumption) (by omega) (by with_reducible assumption) ?_
      | refine Wp.aiN rfl (by assumption) rfl (by first | with_reducible rfl | with_reducible assumption) (by omega) ?_
      | refine Wp.siN rfl (by assumption) rfl (by first | with_reducible rfl | with_reducible assumption) (by omega) ?_
      | refine Wp.rt rfl rfl rfl rfl ?_
      | refine Wp.rz rfl rfl (by decide) ?_)
    refine Wp.V0 rfl (k1.f hr).1 rfl (k_rep (d + 1) k1 hr) (fun M2 v hq' => ?_)
    obtain ⟨j1, j2, rfl⟩ := hq'
    show Wp (d + 5) 35 49 _ [] M2 _
    repeat' (first
      | (with_reducible refine Wp.lt (by omega) (by omega) (fun _ => ?_) (fun _ => ?_) <;> try (exfalso; omega))
      | (with_reducible refine Wp.le (by omega) (by omega) (fun _ => ?_) (fun _ => ?_) <;> try (exfalso; omega))
      | (with_reducible refine Wp.eq (by omega) (by omega) (fun _ => ?_) (fun _ => ?_) <;> try (exfalso; omega))
      | (with_reducible refine Wp.ne (by omega) (by omega) (fun _ => ?_) (fun _ => ?_) <;> try (exfalso; omega))
      | with_reducible refine Wp.lt0 (by omega) ?_
      | with_reducible refine Wp.ge0 (by omega) ?_
      | (with_reducible refine Wp.bz (fun _ => ?_) (fun _ => ?_) <;> try contradiction)
      | (with_reducible refine Wp.bn (fun _ => ?_) (fun _ => ?_) <;> try contradiction)
      | (with_reducible refine Wp.br (fun _ => ?_) (fun _ => ?_) <;> try contradiction)
      | refine Wp.gik rfl (by assumption) (by with_reducible assumption) ?_
      | refine Wp.gi rfl (by assumption) ?_
      | refine Wp.gz rfl (by assumption) ?_
      | refine Wp.gr rfl (by assumption) (by assumption) ?_
      | refine Wp.gn rfl (by assumption) (by assumption) ?_
      | refine Wp.gl rfl (by assumption) ?_
      | refine Wp.addn rfl (by with_reducible rfl) (by with_reducible rfl) ?_
      | refine Wp.muln rfl (by with_reducible rfl) (by with_reducible rfl) ?_
      | refine Wp.subn rfl (by with_reducible rfl) (by with_reducible rfl) (by omega) ?_
      | (refine Wp.decn rfl rfl ?_; dsimp only [List.set])
      | (refine Wp.incn rfl rfl ?_; dsimp only [List.set])
      | (refine Wp.go rfl rfl ?_; try dsimp only [List.set])
      | refine Wp.pi rfl (by assumption) ?_
      | refine Wp.pr rfl (by assumption) ?_
      | refine Wp.pn rfl (by assumption) ?_
      | refine Wp.pl rfl (by assumption) ?_
      | refine Wp.aik rfl (by assumption) rfl (by first | with_reducible rfl | with_reducible assumption) (by omega) (by with_reducible assumption) ?_
      | refine Wp.aiN rfl (by assumption) rfl (by first | with_reducible rfl | with_reducible assumption) (by omega) ?_
      | refine Wp.siN rfl (by assumption) rfl (by first | with_reducible rfl | with_reducible assumption) (by omega) ?_
      | refine Wp.rt rfl rfl rfl rfl ?_
      | refine Wp.rz rfl rfl (by decide) ?_)
    rw [(c_sn_p _ _ _ _ _ _ _ 5).1] at j1
    exact ⟨j1, k2.trans j2, rfl⟩
end GOES
