/-! the class: a replica keeps a snapshot, installs, goes down, proposes, executes -/
def c_keep (C : xCC) (r : Nat) (S : xS) : xCC := (c_fg (c_fg C.1 (9 + 13 * r + 2) (sl S) 0) (9 + 13 * r + 5) (sl S) (-1), C.2.1, x_p C.2.2.1 r S, C.2.2.2)
def c_inst (C : xCC) (r : Nat) (S : xS) : xCC := if sl (C.2.1 r) < sl S then c_keep (C.1, x_p C.2.1 r S, C.2.2) r S else C
def c_down (C : xCC) (r : Nat) : xCC := (x_u (c_fg (x_u C.1 (9 + 13 * r) 3 0) (9 + 13 * r + 5) 24 (-1)) (9 + 13 * r + 6) 0 (-1), x_p C.2.1 r (C.2.2.1 r), C.2.2)
def c_prJ (J : xI) (r s : Nat) (b c m : Int32) : xI := if c_bt m r = true then c_cav (c_vp (c_cpr J (9 + 13 * r + 6) s c) (9 + 13 * r + 1) s b c) (9 + 13 * r + 6) s (nI r) else c_cpr J (9 + 13 * r + 6) s c
def c_prp (C : xCC) (r s : Nat) (c : Int32) : xCC := c_sn (c_prJ C.1 r s (C.1 (9 + 13 * r + 6) 0) c (s_mo (C.2.1 r) s), C.2) r (s_mo (C.2.1 r) s &&& c_oth r) (nI 3) (C.1 (9 + 13 * r + 6) 0) (nI s) c 5
def c_exS (C : xCC) (r q : Nat) : xS := if q = 0 then s_new (C.2.1 r) else s_aft (C.2.1 r) q (C.2.2.2.1 q)
def c_exe (C : xCC) (r q : Nat) : xCC := if (decide (q ≠ 0) && c_cmpg C.1 (9 + 13 * r)) = true then c_hr (C.1, x_p C.2.1 r (c_exS C r q), C.2.2) q (s_an (c_exS C r q) q) else (C.1, x_p C.2.1 r (c_exS C r q), C.2.2)
section REPL2
variable {M : xM} {C : xCC} {r : Nat} {s : Nat} {S : xS}
theorem Rp.f (h : Rp M C) (hr : r < 5) : M.1[9 + 13 * r]? = some (false, 5, 10) ∧ M.2.2.2 (9 + 13 * r) 1 = some 1 ∧ M.2.2.2 (9 + 13 * r) 2 = some 3 ∧ M.2.2.2 (9 + 13 * r) 5 = some (9 + 13 * r + 1) ∧ M.2.2.2 (9 + 13 * r) 8 = some (9 + 13 * r + 4) ∧ M.2.2.2 (9 + 13 * r) 9 = some (9 + 13 * r + 6) := by
  obtain ⟨p1, p2, p3, p4, p5, p6, p7, p8, _⟩ := h.k hr
  exact ⟨p1, p2, p3, p4, p6, p8⟩
theorem Rp.g (h : Rp M C) (hr : r < 5) : M.1[9 + 13 * r + 1]? = some (false, 8, 2) ∧ M.1[9 + 13 * r + 4]? = some (false, 2, 1) ∧ M.1[9 + 13 * r + 6]? = some (false, 0, 5) ∧ M.2.2.2 (9 + 13 * r + 6) 2 = some (9 + 13 * r + 7) ∧ M.2.2.2 (9 + 13 * r + 6) 3 = some (9 + 13 * r + 10) ∧ M.1[9 + 13 * r + 7]? = some (false, 8, 2) ∧ M.1[9 + 13 * r + 10]? = some (false, 2, 1) := by
  obtain ⟨p1, p2, p3, p4, p5, p6, p7, p8, d1, d2, d3, d4, d5, d6, d7⟩ := h.k hr
  exact ⟨p5.1, p7.1, d1, d2, d3, d5.1, d6.1⟩
theorem Rp.vK (h : Rp M C) (hr : r < 5) : vtK (zO M) (9 + 13 * r + 1) := (h.k hr).2.2.2.2.1
theorem Rp.kK (h : Rp M C) (hr : r < 5) : cmK (zO M) (9 + 13 * r + 4) := (h.k hr).2.2.2.2.2.2.1
theorem Rp.cK (h : Rp M C) (hr : r < 5) : caK (zO M) (9 + 13 * r + 6) := (h.k hr).2.2.2.2.2.2.2.2
theorem Rp.oK (h : Rp M C) (hr : r < 5) : cmK (zO M) (9 + 13 * r + 10) := (h.cK hr).2.2.2.2.2.1
theorem Rp.lK (h : Rp M C) (hr : r < 5) : vtK (zO M) (9 + 13 * r + 7) := (h.cK hr).2.2.2.2.1
theorem stA.f (h : stA M s S) : M.1[s]? = some (false, 7, 7) ∧ M.2.1 s 0 = nI (sl S) ∧ sl S ≤ 24 := ⟨h.2.1.1, h.o.2.1, h.o.2.2.1⟩
set_option maxHeartbeats 4000000 in
theorem k_keep (d : Nat) {p : Nat} (h : Rp M C) (hr : r < 5) (hs : stA M p S) : Ev (d + 4) 43 M [.ref (9 + 13 * r), .ref p] (fun M' v => Rp M' (c_keep C r S) ∧ Ext 0 M M' ∧ v = some (.int (nI (c_vn C.1 (9 + 13 * r + 1) (sl S))))) := by
  obtain ⟨p1, p2, p3, p4, p5, p6⟩ := h.f hr
  obtain ⟨g1, g2, g3, g4, g5, g6, g7⟩ := h.g hr
  obtain ⟨s1, s2, s3⟩ := hs.f
  have hu := ((Iu.of h).fg (a := 9 + 13 * r + 2) (sl S) 0 (by omega) (by omega)).fg (a := 9 + 13 * r + 5) (sl S) (-1) (by omega) (by omega)
  have hn := hu.rp h
  have s2' : c_fg M.2.1 (9 + 13 * r + 2) (sl S) 0 p 0 = nI (sl S) := (if_neg (by have := hs.1; omega)).trans s2
  refine Ev.of (ls := [some (.ref (9 + 13 * r)), some (.ref p), none]) rfl rfl ?_
  repeat' ((with_reducible fail_if_success show Wp _ _ 8 _ _ _ _); (first
      | (with_reducible refine Wp.lt (by omega) (by omega) (fun _ => ?_) (fun _ => ?_) <;> try (exfalso; omega))
      | (with_reducible refine Wp.le (by omega) (by omega) (fun _ => ?_) (fun _ => ?_) <;> try (exfalso; omega))
      | (with_reducible refine Wp.eq (by omega) (by omega) (fun _ => ?_) (fun _ => ?_) <;> try (exfalso; omega))
      | (with_reducible refine Wp.ne (by omega) (by omega) (fun _ => ?_) (fun _ => ?_) <;> try (exfalso; omega))
      | with_reducible refine Wp.lt0 (by omega) ?_
      | with_reducible refine Wp.ge0 (by omega) ?_
      | (with_reducible refine Wp.bz (fun _ => ?_) (fun _ => ?_) <;> try contradiction)
      | (with_reducible refine Wp.bn (fun _ => ?_) (fun _ => ?_) <;> try contradiction)
      | (with_reducible refine Wp.br (fun _ => ?_) (fun _ => ?_) <;> try contradiction)
      | refine Wp.gik rfl (by assumption) (by with_reducible assumption) ?_
      | refine Wp.gi rfl (by assumption) ?_
      | refine Wp.gz rfl (by assumption) ?_
      | refine Wp.gr rfl (by assumption) (by assumption) ?_
      | refine Wp.gn rfl (by assumption) (by assumption) ?_
      | refine Wp.gl rfl (by assumption) ?_
      | refine Wp.addn rfl (by with_reducible rfl) (by with_reducible rfl) ?_
      | refine Wp.muln rfl (by with_reducible rfl) (by with_reducible rfl) ?_
      | refine Wp.subn rfl (by with_reducible rfl) (by with_reducible rfl) (by omega) ?_
      | (refine Wp.decn rfl rfl ?_; dsimp only [List.set])
      | (refine Wp.incn rfl rfl ?_; dsimp only [List.set])
      | (refine Wp.go rfl rfl ?_; try dsimp only [List.set])
      | refine Wp.pi rfl (by assumption) ?_
      | refine Wp.pr rfl (by assumption) ?_
      | refine Wp.pn rfl (by assumption) ?_
      | refine Wp.pl rfl (by assumption) ?_
      | refine Wp.aik rfl (by assumption) rfl (by first | with_reducible rfl | with_reducible assumption) (by omega) (by with_reducible assumption) ?_
      | refine Wp.aiN rfl (by assumption) rfl (by first | with_reducible rfl | with_reducible assumption) (by omega) ?_
      | refine Wp.siN rfl (by assumption) rfl (by first | with_reducible rfl | with_reducible assumption) (by omega) ?_
      | refine Wp.rt rfl rfl rfl rfl ?_
      | refine Wp.rz rfl rfl (by decide) ?_))
  refine Wp.V1i rfl g1 rfl (k_vcount d M.2.1 (Z := zO M) s3 (h.vK hr)).ev0 ?_
  rw [c_vn_g h.1 (by omega)]
  have q5 : x_u M.2.2.2 (9 + 13 * r) 6 (some p) (9 + 13 * r) 5 = some (9 + 13 * r + 1) := (x_u_ne _ _ (by omega)).trans p4
  have q8 : x_u M.2.2.2 (9 + 13 * r) 6 (some p) (9 + 13 * r) 8 = some (9 + 13 * r + 4) := (x_u_ne _ _ (by omega)).trans p5
  have hm := h.snap hr hs
  repeat' ((with_reducible fail_if_success show Wp _ _ 25 _ _ _ _); (first
      | (with_reducible refine Wp.lt (by omega) (by omega) (fun _ => ?_) (fun _ => ?_) <;> try (exfalso; omega))
      | (with_reducible refine Wp.le (by omega) (by omega) (fun _ => ?_) (fun _ => ?_) <;> try (exfalso; omega))
      | (with_reducible refine Wp.eq (by omega) (by omega) (fun _ => ?_) (fun _ => ?_) <;> try (exfalso; omega))
      | (with_reducible refine Wp.ne (by omega) (by omega) (fun _ => ?_) (fun _ => ?_) <;> try (exfalso; omega))
      | with_reducible refine Wp.lt0 (by omega) ?_
      | with_reducible refine Wp.ge0 (by omega) ?_
      | (with_reducible refine Wp.bz (fun _ => ?_) (fun _ => ?_) <;> try contradiction)
      | (with_reducible refine Wp.bn (fun _ => ?_) (fun _ => ?_) <;> try contradiction)
      | (with_reducible refine Wp.br (fun _ => ?_) (fun _ => ?_) <;> try contradiction)
      | refine Wp.gik rfl (by assumption) (by with_reducible assumption) ?_
      | refine Wp.gi rfl (by assumption) ?_
      | refine Wp.gz rfl (by assumption) ?_
      | refine Wp.gr rfl (by assumption) (by assumption) ?_
      | refine Wp.gn rfl (by assumption) (by assumption) ?_
      | refine Wp.gl rfl (by assumption) ?_
      | refine Wp.addn rfl (by with_reducible rfl) (by with_reducible rfl) ?_
      | refine Wp.muln rfl (by with_reducible rfl) (by with_reducible rfl) ?_
      | refine Wp.subn rfl (by with_reducible rfl) (by with_reducible rfl) (by omega) ?_
      | (refine Wp.decn rfl rfl ?_; dsimp only [List.set])
      | (refine Wp.incn rfl rfl ?_; dsimp only [List.set])
      | (refine Wp.go rfl rfl ?_; try dsimp only [List.set])
      | refine Wp.pi rfl (by assumption) ?_
      | refine Wp.pr rfl (by assumption) ?_
      | refine Wp.pn rfl (by assumption) ?_
      | refine Wp.pl rfl (by assumption) ?_
      | refine Wp.aik rfl (by assumption) rfl (by first | with_reducible rfl | with_reducible assumption) (by omega) (by with_reducible assumption) ?_
      | refine Wp.aiN rfl (by assumption) rfl (by first | with_reducible rfl | with_reducible assumption) (by omega) ?_
      | refine Wp.siN rfl (by assumption) rfl (by first | with_reducible rfl | with_reducible assumption) (by omega) ?_
      | refine Wp.rt rfl rfl rfl rfl ?_
      | refine Wp.rz rfl rfl (by decide) ?_))
  refine Wp.V1v rfl g1 rfl (ER.ev (M := (M.1, M.2.1, M.2.2.1, x_u M.2.2.2 (9 + 13 * r) 6 (some p))) (k_vforget (d + 2) M.2.1 (Z := (M.1, M.2.2.1, x_u M.2.2.2 (9 + 13 * r) 6 (some p))) s3 (hm.1.vK hr))) ?_
  repeat' ((with_reducible fail_if_success show Wp _ _ 36 _ _ _ _); (first
      | (with_reducible refine Wp.lt (by omega) (by omega) (fun _ => ?_) (fun _ => ?_) <;> try (exfalso; omega))
      | (with_reducible refine Wp.le (by omega) (by omega) (fun _ => ?_) (fun _ => ?_) <;> try (exfalso; omega))
      | (with_reducible refine Wp.eq (by omega) (by omega) (fun _ => ?_) (fun _ => ?_) <;> try (exfalso; omega))
      | (with_reducible refine Wp.ne (by omega) (by omega) (fun _ => ?_) (fun _ => ?_) <;> try (exfalso; omega))
      | with_reducible refine Wp.lt0 (by omega) ?_
      | with_reducible refine Wp.ge0 (by omega) ?_
      | (with_reducible refine Wp.bz (fun _ => ?_) (fun _ => ?_) <;> try contradiction)
      | (with_reducible refine Wp.bn (fun _ => ?_) (fun _ => ?_) <;> try contradiction)
      | (with_reducible refine Wp.br (fun _ => ?_) (fun _ => ?_) <;> try contradiction)
      | refine Wp.gik rfl (by assumption) (by with_reducible assumption) ?_
      | refine Wp.gi rfl (by assumption) ?_
      | refine Wp.gz rfl (by assumption) ?_
      | refine Wp.gr rfl (by assumption) (by assumption) ?_
      | refine Wp.gn rfl (by assumption) (by assumption) ?_
      | refine Wp.gl rfl (by assumption) ?_
      | refine Wp.addn rfl (by with_reducible rfl) (by with_reducible rfl) ?_
      | refine Wp.muln rfl (by with_reducible rfl) (by with_reducible rfl) ?_
      | refine Wp.subn rfl (by with_reducible rfl) (by with_reducible rfl) (by omega) ?_
      | (refine Wp.decn rfl rfl ?_; dsimp only [List.set])
      | (refine Wp.incn rfl rfl ?_; dsimp only [List.set])
      | (refine Wp.go rfl rfl ?_; try dsimp only [List.set])
      | refine Wp.pi rfl (by assumption) ?_
      | refine Wp.pr rfl (by assumption) ?_
      | refine Wp.pn rfl (by assumption) ?_
      | refine Wp.pl rfl (by assumption) ?_
      | refine Wp.aik rfl (by assumption) rfl (by first | with_reducible rfl | with_reducible assumption) (by omega) (by with_reducible assumption) ?_
      | refine Wp.aiN rfl (by assumption) rfl (by first | with_reducible rfl | with_reducible assumption) (by omega) ?_
      | refine Wp.siN rfl (by assumption) rfl (by first | with_reducible rfl | with_reducible assumption) (by omega) ?_
      | refine Wp.rt rfl rfl rfl rfl ?_
      | refine Wp.rz rfl rfl (by decide) ?_))
  refine Wp.V1v rfl g2 rfl (ER.ev (M := (M.1, c_fg M.2.1 (9 + 13 * r + 2) (sl S) 0, M.2.2.1, x_u M.2.2.2 (9 + 13 * r) 6 (some p))) (k_cforget (d + 2) (c_fg M.2.1 (9 + 13 * r + 2) (sl S) 0) (Z := (M.1, M.2.2.1, x_u M.2.2.2 (9 + 13 * r) 6 (some p))) s3 (hm.1.kK hr))) ?_
  repeat' (first
      | (with_reducible refine Wp.lt (by omega) (by omega) (fun _ => ?_) (fun _ => ?_) <;> try (exfalso; omega))
      | (with_reducible refine Wp.le (by omega) (by omega) (fun _ => ?_) (fun _ => ?_) <;> try (exfalso; omega))
      | (with_reducible refine Wp.eq (by omega) (by omega) (fun _ => ?_) (fun _ => ?_) <;> try (exfalso; omega))
      | (with_reducible refine Wp.ne (by omega) (by omega) (fun _ => ?_) (fun _ => ?_) <;> try (exfalso; omega))
      | with_reducible refine Wp.lt0 (by omega) ?_
      | with_reducible refine Wp.ge0 (by omega) ?_
      | (with_reducible refine Wp.bz (fun _ => ?_) (fun _ => ?_) <;> try contradiction)
      | (with_reducible refine Wp.bn (fun _ => ?_) (fun _ => ?_) <;> try contradiction)
      | (with_reducible refine Wp.br (fun _ => ?_) (fun _ => ?_) <;> try contradiction)
      | refine Wp.gik rfl (by assumption) (by with_reducible assumption) ?_
      | refine Wp.gi rfl (by assumption) ?_
      | refine Wp.gz rfl (by assumption) ?_
      | refine Wp.gr rfl (by assumption) (by assumption) ?_
      | refine Wp.gn rfl (by assumption) (by assumption) ?_
      | refine Wp.gl rfl (by assumption) ?_
      | refine Wp.addn rfl (by with_reducible rfl) (by with_reducible rfl) ?_
      | refine Wp.muln rfl (by with_reducible rfl) (by with_reducible rfl) ?_
      | refine Wp.subn rfl (by with_reducible rfl) (by with_reducible rfl) (by omega) ?_
      | (refine Wp.decn rfl rfl ?_; dsimp only [List.set])
      | (refine Wp.incn rfl rfl ?_; dsimp only [List.set])
      | (refine Wp.go rfl rfl ?_; try dsimp only [List.set])
      | refine Wp.pi rfl (by assumption) ?_
      | refine Wp.pr rfl (by assumption) ?_
      | refine Wp.pn rfl (by assumption) ?_
      | refine Wp.pl rfl (by assumption) ?_
      | refine Wp.aik rfl (by assumption) rfl (by first | with_reducible rfl | with_reducible assumption) (by omega) (by with_reducible assumption) ?_
      | refine Wp.aiN rfl (by assumption) rfl (by first | with_reducible rfl | with_reducible assumption) (by omega) ?_
      | refine Wp.siN rfl (by assumption) rfl (by first | with_reducible rfl | with_reducible assumption) (by omega) ?_
      | refine Wp.rt rfl rfl rfl rfl ?_
      | refine Wp.rz rfl rfl (by decide) ?_)
  have hf := hn.1.snap hr (hs.ext hn.2)
  exact ⟨hf.1, hn.2.trans hf.2, rfl⟩
set_option maxHeartbeats 4000000 in
theorem k_inst (d : Nat) {p : Nat} (h : Rp M C) (hr : r < 5) (hs : stA M p S) : Ev (d + 5) 42 M [.ref (9 + 13 * r), .ref p] (fun M' v => Rp M' (c_inst C r S) ∧ Ext 0 M M' ∧ v = none) := by
  obtain ⟨p1, p2, p3, p4, p5, p6⟩ := h.f hr
  obtain ⟨s1, s2, s3⟩ := hs.f
  obtain ⟨t, t1, t2⟩ := h.hp hr
  obtain ⟨e1, e2, e3⟩ := t2.f
  refine Ev.of (ls := [some (.ref (9 + 13 * r)), some (.ref p)]) rfl rfl ?_
  repeat' ((with_reducible fail_if_success show Wp _ _ 15 _ _ _ _); (first
      | (with_reducible refine Wp.lt (by omega) (by omega) (fun _ => ?_) (fun _ => ?_) <;> try (exfalso; omega))
      | (with_reducible refine Wp.le (by omega) (by omega) (fun _ => ?_) (fun _ => ?_) <;> try (exfalso; omega))
      | (with_reducible refine Wp.eq (by omega) (by omega) (fun _ => ?_) (fun _ => ?_) <;> try (exfalso; omega))
      | (with_reducible refine Wp.ne (by omega) (by omega) (fun _ => ?_) (fun _ => ?_) <;> try (exfalso; omega))
      | with_reducible refine Wp.lt0 (by omega) ?_
      | with_reducible refine Wp.ge0 (by omega) ?_
      | (with_reducible refine Wp.bz (fun _ => ?_) (fun _ => ?_) <;> try contradiction)
      | (with_reducible refine Wp.bn (fun _ => ?_) (fun _ => ?_) <;> try contradiction)
      | (with_reducible refine Wp.br (fun _ => ?_) (fun _ => ?_) <;> try contradiction)
      | refine Wp.gik rfl (by assumption) (by with_reducible assumption) ?_
      | refine Wp.gi rfl (by assumption) ?_
      | refine Wp.gz rfl (by assumption) ?_
      | refine Wp.gr rfl (by assumption) (by assumption) ?_
      | refine Wp.gn rfl (by assumption) (by assumption) ?_
      | refine Wp.gl rfl (by assumption) ?_
      | refine Wp.addn rfl (by with_reducible rfl) (by with_reducible rfl) ?_
      | refine Wp.muln rfl (by with_reducible rfl) (by with_reducible rfl) ?_
      | refine Wp.subn rfl (by with_reducible rfl) (by with_reducible rfl) (by omega) ?_
      | (refine Wp.decn rfl rfl ?_; dsimp only [List.set])
      | (refine Wp.incn rfl rfl ?_; dsimp only [List.set])
      | (refine Wp.go rfl rfl ?_; try dsimp only [List.set])
      | refine Wp.pi rfl (by assumption) ?_
      | refine Wp.pr rfl (by assumption) ?_
      | refine Wp.pn rfl (by assumption) ?_
      | refine Wp.pl rfl (by assumption) ?_
      | refine Wp.aik rfl (by assumption) rfl (by first | with_reducible rfl | with_reducible assumption) (by omega) (by with_reducible assumption) ?_
      | refine Wp.aiN rfl (by assumption) rfl (by first | with_reducible rfl | with_reducible assumption) (by omega) ?_
      | refine Wp.siN rfl (by assumption) rfl (by first | with_reducible rfl | with_reducible assumption) (by omega) ?_
      | refine Wp.rt rfl rfl rfl rfl ?_
      | refine Wp.rz rfl rfl (by decide) ?_))
  iterate 2 (first
      | (with_reducible refine Wp.lt (by omega) (by omega) (fun _ => ?_) (fun _ => ?_) <;> try (exfalso; omega))
      | (with_reducible refine Wp.le (by omega) (by omega) (fun _ => ?_) (fun _ => ?_) <;> try (exfalso; omega))
      | (with_reducible refine Wp.eq (by omega) (by omega) (fun _ => ?_) (fun _ => ?_) <;> try (exfalso; omega))
      | (with_reducible refine Wp.ne (by omega) (by omega) (fun _ => ?_) (fun _ => ?_) <;> try (exfalso; omega))
      | with_reducible refine Wp.lt0 (by omega) ?_
      | with_reducible refine Wp.ge0 (by omega) ?_
      | (with_reducible refine Wp.bz (fun _ => ?_) (fun _ => ?_) <;> try contradiction)
      | (with_reducible refine Wp.bn (fun _ => ?_) (fun _ => ?_) <;> try contradiction)
      | (with_reducible refine Wp.br (fun _ => ?_) (fun _ => ?_) <;> try contradiction)
      | refine Wp.gik rfl (by assumption) (by with_reducible assumption) ?_
      | refine Wp.gi rfl (by assumption) ?_
      | refine Wp.gz rfl (by assumption) ?_
      | refine Wp.gr rfl (by assumption) (by assumption) ?_
      | refine Wp.gn rfl (by assumption) (by assumption) ?_
      | refine Wp.gl rfl (by assumption) ?_
      | refine Wp.addn rfl (by with_reducible rfl) (by with_reducible rfl) ?_
      | refine Wp.muln rfl (by with_reducible rfl) (by with_reducible rfl) ?_
      | refine Wp.subn rfl (by with_reducible rfl) (by with_reducible rfl) (by omega) ?_
      | (refine Wp.decn rfl rfl ?_; dsimp only [List.set])
      | (refine Wp.incn rfl rfl ?_; dsimp only [List.set])
      | (refine Wp.go rfl rfl ?_; try dsimp only [List.set])
      | refine Wp.pi rfl (by assumption) ?_
      | refine Wp.pr rfl (by assumption) ?_
      | refine Wp.pn rfl (by assumption) ?_
      | refine Wp.pl rfl (by assumption) ?_
      | refine Wp.aik rfl (by assumption) rfl (by first | with_reducible rfl | with_reducible assumption) (by omega) (by with_reducible assumption) ?_
      | refine Wp.aiN rfl (by assumption) rfl (by first | with_reducible rfl | with_reducible assumption) (by omega) ?_
      | refine Wp.siN rfl (by assumption) rfl (by first | with_reducible rfl | with_reducible assumption) (by omega) ?_
      | refine Wp.rt rfl rfl rfl rfl ?_
      | refine Wp.rz rfl rfl (by decide) ?_)
  · rename_i hc
    repeat' (first
      | (with_reducible refine Wp.lt (by omega) (by omega) (fun _ => ?_) (fun _ => ?_) <;> try (exfalso; omega))
      | (with_reducible refine Wp.le (by omega) (by omega) (fun _ => ?_) (fun _ => ?_) <;> try (exfalso; omega))
      | (with_reducible refine Wp.eq (by omega) (by omega) (fun _ => ?_) (fun _ => ?_) <;> try (exfalso; omega))
      | (with_reducible refine Wp.ne (by omega) (by omega) (fun _ => ?_) (fun _ => ?_) <;> try (exfalso; omega))
      | with_reducible refine Wp.lt0 (by omega) ?_
      | with_reducible refine Wp.ge0 (by omega) ?_
      | (with_reducible refine Wp.bz (fun _ => ?_) (fun _ => ?_) <;> try contradiction)
      | (with_reducible refine Wp.bn (fun _ => ?_) (fun _ => ?_) <;> try contradiction)
      | (with_reducible refine Wp.br (fun _ => ?_) (fun _ => ?_) <;> try contradiction)
      | refine Wp.gik rfl (by assumption) (by with_reducible assumption) ?_
      | refine Wp.gi rfl (by assumption) ?_
      | refine Wp.gz rfl (by assumption) ?_
      | refine Wp.gr rfl (by assumption) (by assumption) ?_
      | refine Wp.gn rfl (by assumption) (by assumption) ?_
      | refine Wp.gl rfl (by assumption) ?_
      | refine Wp.addn rfl (by with_reducible rfl) (by with_reducible rfl) ?_
      | refine Wp.muln rfl (by with_reducible rfl) (by with_reducible rfl) ?_
      | refine Wp.subn rfl (by with_reducible rfl) (by with_reducible rfl) (by omega) ?_
      | (refine Wp.decn rfl rfl ?_; dsimp only [List.set])
      | (refine Wp.incn rfl rfl ?_; dsimp only [List.set])
      | (refine Wp.go rfl rfl ?_; try dsimp only [List.set])
      | refine Wp.pi rfl (by assumption) ?_
      | refine Wp.pr rfl (by assumption) ?_
      | refine Wp.pn rfl (by assumption) ?_
      | refine Wp.pl rfl (by assumption) ?_
      | refine Wp.aik rfl (by assumption) rfl (by first | with_reducible rfl | with_reducible assumption) (by omega) (by with_reducible assumption) ?_
      | refine Wp.aiN rfl (by assumption) rfl (by first | with_reducible rfl | with_reducible assumption) (by omega) ?_
      | refine Wp.siN rfl (by assumption) rfl (by first | with_reducible rfl | with_reducible assumption) (by omega) ?_
      | refine Wp.rt rfl rfl rfl rfl ?_
      | refine Wp.rz rfl rfl (by decide) ?_)
    rw [c_inst, if_neg (by omega)]
    exact ⟨h, Ext.refl M, rfl⟩
  · rename_i hc
    have hm := h.pres hr hs
    repeat' ((with_reducible fail_if_success show Wp _ _ 25 _ _ _ _); (first
      | (with_reducible refine Wp.lt (by omega) (by omega) (fun _ => ?_) (fun _ => ?_) <;> try (exfalso; omega))
      | (with_reducible refine Wp.le (by omega) (by omega) (fun _ => ?_) (fun _ => ?_) <;> try (exfalso; omega))
      | (with_reducible refine Wp.eq (by omega) (by omega) (fun _ => ?_) (fun _ => ?_) <;> try (exfalso; omega))
      | (with_reducible refine Wp.ne (by omega) (by omega) (fun _ => ?_) (fun _ => ?_) <;> try (exfalso; omega))
      | with_reducible refine Wp.lt0 (by omega) ?_
      | with_reducible refine Wp.ge0 (by omega) ?_
      | (with_reducible refine Wp.bz (fun _ => ?_) (fun _ => ?_) <;> try contradiction)
      | (with_reducible refine Wp.bn (fun _ => ?_) (fun _ => ?_) <;> try contradiction)
      | (with_reducible refine Wp.br (fun _ => ?_) (fun _ => ?_) <;> try contradiction)
      | refine Wp.gik rfl (by assumption) (by with_reducible assumption) ?_
      | refine Wp.gi rfl (by assumption) ?_
      | refine Wp.gz rfl (by assumption) ?_
      | refine Wp.gr rfl (by assumption) (by assumption) ?_
      | refine Wp.gn rfl (by assumption) (by assumption) ?_
      | refine Wp.gl rfl (by assumption) ?_
      | refine Wp.addn rfl (by with_reducible rfl) (by with_reducible rfl) ?_
      | refine Wp.muln rfl (by with_reducible rfl) (by with_reducible rfl) ?_
      | refine Wp.subn rfl (by with_reducible rfl) (by with_reducible rfl) (by omega) ?_
      | (refine Wp.decn rfl rfl ?_; dsimp only [List.set])
      | (refine Wp.incn rfl rfl ?_; dsimp only [List.set])
      | (refine Wp.go rfl rfl ?_; try dsimp only [List.set])
      | refine Wp.pi rfl (by assumption) ?_
      | refine Wp.pr rfl (by assumption) ?_
      | refine Wp.pn rfl (by assumption) ?_
      | refine Wp.pl rfl (by assumption) ?_
      | refine Wp.aik rfl (by assumption) rfl (by first | with_reducible rfl | with_reducible assumption) (by omega) (by with_reducible assumption) ?_
      | refine Wp.aiN rfl (by assumption) rfl (by first | with_reducible rfl | with_reducible assumption) (by omega) ?_
      | refine Wp.siN rfl (by assumption) rfl (by first | with_reducible rfl | with_reducible assumption) (by omega) ?_
      | refine Wp.rt rfl rfl rfl rfl ?_
      | refine Wp.rz rfl rfl (by decide) ?_))
    refine Wp.V1 rfl p1 rfl (k_keep d hm.1 hr (hs.ext hm.2)) (fun M' v hq => ?_)
    obtain ⟨h1, h2, rfl⟩ := hq
    show Wp (d + 4) 42 28 _ [.int _] M' _
    repeat' (first
      | (with_reducible refine Wp.lt (by omega) (by omega) (fun _ => ?_) (fun _ => ?_) <;> try (exfalso; omega))
      | (with_reducible refine Wp.le (by omega) (by omega) (fun _ => ?_) (fun _ => ?_) <;> try (exfalso; omega))
      | (with_reducible refine Wp.eq (by omega) (by omega) (fun _ => ?_) (fun _ => ?_) <;> try (exfalso; omega))
      | (with_reducible refine Wp.ne (by omega) (by omega) (fun _ => ?_) (fun _ => ?_) <;> try (exfalso; omega))
      | with_reducible refine Wp.lt0 (by omega) ?_
      | with_reducible refine Wp.ge0 (by omega) ?_
      | (with_reducible refine Wp.bz (fun _ => ?_) (fun _ => ?_) <;> try contradiction)
      | (with_reducible refine Wp.bn (fun _ => ?_) (fun _ => ?_) <;> try contradiction)
      | (with_reducible refine Wp.br (fun _ => ?_) (fun _ => ?_) <;> try contradiction)
      | refine Wp.gik rfl (by assumption) (by with_reducible assumption) ?_
      | refine Wp.gi rfl (by assumption) ?_
      | refine Wp.gz rfl (by assumption) ?_
      | refine Wp.gr rfl (by assumption) (by assumption) ?_
      | refine Wp.gn rfl (by assumption) (by assumption) ?_
      | refine Wp.gl rfl (by assumption) ?_
      | refine Wp.addn rfl (by with_reducible rfl) (by with_reducible rfl) ?_
      | refine Wp.muln rfl (by with_reducible rfl) (by with_reducible rfl) ?_
      | refine Wp.subn rfl (by with_reducible rfl) (by with_reducible rfl) (by omega) ?_
      | (refine Wp.decn rfl rfl ?_; dsimp only [List.set])
      | (refine Wp.incn rfl rfl ?_; dsimp only [List.set])
      | (refine Wp.go rfl rfl ?_; try dsimp only [List.set])
      | refine Wp.pi rfl (by assumption) ?_
      | refine Wp.pr rfl (by assumption) ?_
      | refine Wp.pn rfl (by assumption) ?_
      | refine Wp.pl rfl (by assumption) ?_
      | refine Wp.aik rfl (by assumption) rfl (by first | with_reducible rfl | with_reducible assumption) (by omega) (by with_reducible assumption) ?_
      | refine Wp.aiN rfl (by assumption) rfl (by first | with_reducible rfl | with_reducible assumption) (by omega) ?_
      | refine Wp.siN rfl (by assumption) rfl (by first | with_reducible rfl | with_reducible assumption) (by omega) ?_
      | refine Wp.rt rfl rfl rfl rfl ?_
      | refine Wp.rz rfl rfl (by decide) ?_)
    rw [c_inst, if_pos (by omega)]
    exact ⟨h1, hm.2.trans h2, rfl⟩
set_option maxHeartbeats 4000000 in
theorem k_down (d : Nat) (h : Rp M C) (hr : r < 5) : Ev (d + 2) 51 M [.ref (9 + 13 * r)] (fun M' v => Rp M' (c_down C r) ∧ Ext 0 M M' ∧ v = none) := by
  obtain ⟨p1, p2, p3, p4, p5, p6⟩ := h.f hr
  obtain ⟨g1, g2, g3, g4, g5, g6, g7⟩ := h.g hr
  obtain ⟨t, t1, t2⟩ := h.hs hr
  have hu := (((Iu.of h).u (a := 9 + 13 * r) (i := 3) 0 (by omega) (by omega) (fun q => by omega)).fg (a := 9 + 13 * r + 5) 24 (-1) (by omega) (by omega)).u (a := 9 + 13 * r + 6) (i := 0) (-1) (by omega) (by omega) (fun _ _ _ => by omega)
  have hn := hu.rp h
  have hm := h.pres hr t2
  have q9 : x_u M.2.2.2 (9 + 13 * r) 7 (some t) (9 + 13 * r) 9 = some (9 + 13 * r + 6) := (x_u_ne _ _ (by omega)).trans p6
  refine Ev.of (ls := [some (.ref (9 + 13 * r))]) rfl rfl ?_
  repeat' ((with_reducible fail_if_success show Wp _ _ 2 _ _ _ _); (first
      | (with_reducible refine Wp.lt (by omega) (by omega) (fun _ => ?_) (fun _ => ?_) <;> try (exfalso; omega))
      | (with_reducible refine Wp.le (by omega) (by omega) (fun _ => ?_) (fun _ => ?_) <;> try (exfalso; omega))
      | (with_reducible refine Wp.eq (by omega) (by omega) (fun _ => ?_) (fun _ => ?_) <;> try (exfalso; omega))
      | (with_reducible refine Wp.ne (by omega) (by omega) (fun _ => ?_) (fun _ => ?_) <;> try (exfalso; omega))
      | with_reducible refine Wp.lt0 (by omega) ?_
      | with_reducible refine Wp.ge0 (by omega) ?_
      | (with_reducible refine Wp.bz (fun _ => ?_) (fun _ => ?_) <;> try contradiction)
      | (with_reducible refine Wp.bn (fun _ => ?_) (fun _ => ?_) <;> try contradiction)
      | (with_reducible refine Wp.br (fun _ => ?_) (fun _ => ?_) <;> try contradiction)
      | refine Wp.gik rfl (by assumption) (by with_reducible assumption) ?_
      | refine Wp.gi rfl (by assumption) ?_
      | refine Wp.gz rfl (by assumption) ?_
      | refine Wp.gr rfl (by assumption) (by assumption) ?_
      | refine Wp.gn rfl (by assumption) (by assumption) ?_
      | refine Wp.gl rfl (by assumption) ?_
      | refine Wp.addn rfl (by with_reducible rfl) (by with_reducible rfl) ?_
      | refine Wp.muln rfl (by with_reducible rfl) (by with_reducible rfl) ?_
      | refine Wp.subn rfl (by with_reducible rfl) (by with_reducible rfl) (by omega) ?_
      | (refine Wp.decn rfl rfl ?_; dsimp only [List.set])
      | (refine Wp.incn rfl rfl ?_; dsimp only [List.set])
      | (refine Wp.go rfl rfl ?_; try dsimp only [List.set])
      | refine Wp.pi rfl (by assumption) ?_
      | refine Wp.pr rfl (by assumption) ?_
      | refine Wp.pn rfl (by assumption) ?_
      | refine Wp.pl rfl (by assumption) ?_
      | refine Wp.aik rfl (by assumption) rfl (by first | with_reducible rfl | with_reducible assumption) (by omega) (by with_reducible assumption) ?_
      | refine Wp.aiN rfl (by assumption) rfl (by first | with_reducible rfl | with_reducible assumption) (by omega) ?_
      | refine Wp.siN rfl (by assumption) rfl (by first | with_reducible rfl | with_reducible assumption) (by omega) ?_
      | refine Wp.rt rfl rfl rfl rfl ?_
      | refine Wp.rz rfl rfl (by decide) ?_))
  refine Wp.pz rfl p1 (Or.inl rfl) ?_
  repeat' ((with_reducible fail_if_success show Wp _ _ 11 _ _ _ _); (first
      | (with_reducible refine Wp.lt (by omega) (by omega) (fun _ => ?_) (fun _ => ?_) <;> try (exfalso; omega))
      | (with_reducible refine Wp.le (by omega) (by omega) (fun _ => ?_) (fun _ => ?_) <;> try (exfalso; omega))
      | (with_reducible refine Wp.eq (by omega) (by omega) (fun _ => ?_) (fun _ => ?_) <;> try (exfalso; omega))
      | (with_reducible refine Wp.ne (by omega) (by omega) (fun _ => ?_) (fun _ => ?_) <;> try (exfalso; omega))
      | with_reducible refine Wp.lt0 (by omega) ?_
      | with_reducible refine Wp.ge0 (by omega) ?_
      | (with_reducible refine Wp.bz (fun _ => ?_) (fun _ => ?_) <;> try contradiction)
      | (with_reducible refine Wp.bn (fun _ => ?_) (fun _ => ?_) <;> try contradiction)
      | (with_reducible refine Wp.br (fun _ => ?_) (fun _ => ?_) <;> try contradiction)
      | refine Wp.gik rfl (by assumption) (by with_reducible assumption) ?_
      | refine Wp.gi rfl (by assumption) ?_
      | refine Wp.gz rfl (by assumption) ?_
      | refine Wp.gr rfl (by assumption) (by assumption) ?_
      | refine Wp.gn rfl (by assumption) (by assumption) ?_
      | refine Wp.gl rfl (by assumption) ?_
      | refine Wp.addn rfl (by with_reducible rfl) (by with_reducible rfl) ?_
      | refine Wp.muln rfl (by with_reducible rfl) (by with_reducible rfl) ?_
      | refine Wp.subn rfl (by with_reducible rfl) (by with_reducible rfl) (by omega) ?_
      | (refine Wp.decn rfl rfl ?_; dsimp only [List.set])
      | (refine Wp.incn rfl rfl ?_; dsimp only [List.set])
      | (refine Wp.go rfl rfl ?_; try dsimp only [List.set])
      | refine Wp.pi rfl (by assumption) ?_
      | refine Wp.pr rfl (by assumption) ?_
      | refine Wp.pn rfl (by assumption) ?_
      | refine Wp.pl rfl (by assumption) ?_
      | refine Wp.aik rfl (by assumption) rfl (by first | with_reducible rfl | with_reducible assumption) (by omega) (by with_reducible assumption) ?_
      | refine Wp.aiN rfl (by assumption) rfl (by first | with_reducible rfl | with_reducible assumption) (by omega) ?_
      | refine Wp.siN rfl (by assumption) rfl (by first | with_reducible rfl | with_reducible assumption) (by omega) ?_
      | refine Wp.rt rfl rfl rfl rfl ?_
      | refine Wp.rz rfl rfl (by decide) ?_))
  refine Wp.V1v rfl g2 rfl (ER.ev (M := (M.1, x_u M.2.1 (9 + 13 * r) 3 0, M.2.2)) (k_cforget d (x_u M.2.1 (9 + 13 * r) 3 0) (Z := zO M) (by decide) (h.kK hr))) ?_
  repeat' ((with_reducible fail_if_success show Wp _ _ 26 _ _ _ _); (first
      | (with_reducible refine Wp.lt (by omega) (by omega) (fun _ => ?_) (fun _ => ?_) <;> try (exfalso; omega))
      | (with_reducible refine Wp.le (by omega) (by omega) (fun _ => ?_) (fun _ => ?_) <;> try (exfalso; omega))
      | (with_reducible refine Wp.eq (by omega) (by omega) (fun _ => ?_) (fun _ => ?_) <;> try (exfalso; omega))
      | (with_reducible refine Wp.ne (by omega) (by omega) (fun _ => ?_) (fun _ => ?_) <;> try (exfalso; omega))
      | with_reducible refine Wp.lt0 (by omega) ?_
      | with_reducible refine Wp.ge0 (by omega) ?_
      | (with_reducible refine Wp.bz (fun _ => ?_) (fun _ => ?_) <;> try contradiction)
      | (with_reducible refine Wp.bn (fun _ => ?_) (fun _ => ?_) <;> try contradiction)
      | (with_reducible refine Wp.br (fun _ => ?_) (fun _ => ?_) <;> try contradiction)
      | refine Wp.gik rfl (by assumption) (by with_reducible assumption) ?_
      | refine Wp.gi rfl (by assumption) ?_
      | refine Wp.gz rfl (by assumption) ?_
      | refine Wp.gr rfl (by assumption) (by assumption) ?_
      | refine Wp.gn rfl (by assumption) (by assumption) ?_
      | refine Wp.gl rfl (by assumption) ?_
      | refine Wp.addn rfl (by with_reducible rfl) (by with_reducible rfl) ?_
      | refine Wp.muln rfl (by with_reducible rfl) (by with_reducible rfl) ?_
      | refine Wp.subn rfl (by with_reducible rfl) (by with_reducible rfl) (by omega) ?_
      | (refine Wp.decn rfl rfl ?_; dsimp only [List.set])
      | (refine Wp.incn rfl rfl ?_; dsimp only [List.set])
      | (refine Wp.go rfl rfl ?_; try dsimp only [List.set])
      | refine Wp.pi rfl (by assumption) ?_
      | refine Wp.pr rfl (by assumption) ?_
      | refine Wp.pn rfl (by assumption) ?_
      | refine Wp.pl rfl (by assumption) ?_
      | refine Wp.aik rfl (by assumption) rfl (by first | with_reducible rfl | with_reducible assumption) (by omega) (by with_reducible assumption) ?_
      | refine Wp.aiN rfl (by assumption) rfl (by first | with_reducible rfl | with_reducible assumption) (by omega) ?_
      | refine Wp.siN rfl (by assumption) rfl (by first | with_reducible rfl | with_reducible assumption) (by omega) ?_
      | refine Wp.rt rfl rfl rfl rfl ?_
      | refine Wp.rz rfl rfl (by decide) ?_))
  refine Wp.V0v rfl g3 rfl (ER.ev (M := (M.1, c_fg (x_u M.2.1 (9 + 13 * r) 3 0) (9 + 13 * r + 5) 24 (-1), M.2.2.1, x_u M.2.2.2 (9 + 13 * r) 7 (some t))) (k_cend d (c_fg (x_u M.2.1 (9 + 13 * r) 3 0) (9 + 13 * r + 5) 24 (-1)) (Z := (M.1, M.2.2.1, x_u M.2.2.2 (9 + 13 * r) 7 (some t))) (hm.1.cK hr))) ?_
  repeat' (first
      | (with_reducible refine Wp.lt (by omega) (by omega) (fun _ => ?_) (fun _ => ?_) <;> try (exfalso; omega))
      | (with_reducible refine Wp.le (by omega) (by omega) (fun _ => ?_) (fun _ => ?_) <;> try (exfalso; omega))
      | (with_reducible refine Wp.eq (by omega) (by omega) (fun _ => ?_) (fun _ => ?_) <;> try (exfalso; omega))
      | (with_reducible refine Wp.ne (by omega) (by omega) (fun _ => ?_) (fun _ => ?_) <;> try (exfalso; omega))
      | with_reducible refine Wp.lt0 (by omega) ?_
      | with_reducible refine Wp.ge0 (by omega) ?_
      | (with_reducible refine Wp.bz (fun _ => ?_) (fun _ => ?_) <;> try contradiction)
      | (with_reducible refine Wp.bn (fun _ => ?_) (fun _ => ?_) <;> try contradiction)
      | (with_reducible refine Wp.br (fun _ => ?_) (fun _ => ?_) <;> try contradiction)
      | refine Wp.gik rfl (by assumption) (by with_reducible assumption) ?_
      | refine Wp.gi rfl (by assumption) ?_
      | refine Wp.gz rfl (by assumption) ?_
      | refine Wp.gr rfl (by assumption) (by assumption) ?_
      | refine Wp.gn rfl (by assumption) (by assumption) ?_
      | refine Wp.gl rfl (by assumption) ?_
      | refine Wp.addn rfl (by with_reducible rfl) (by with_reducible rfl) ?_
      | refine Wp.muln rfl (by with_reducible rfl) (by with_reducible rfl) ?_
      | refine Wp.subn rfl (by with_reducible rfl) (by with_reducible rfl) (by omega) ?_
      | (refine Wp.decn rfl rfl ?_; dsimp only [List.set])
      | (refine Wp.incn rfl rfl ?_; dsimp only [List.set])
      | (refine Wp.go rfl rfl ?_; try dsimp only [List.set])
      | refine Wp.pi rfl (by assumption) ?_
      | refine Wp.pr rfl (by assumption) ?_
      | refine Wp.pn rfl (by assumption) ?_
      | refine Wp.pl rfl (by assumption) ?_
      | refine Wp.aik rfl (by assumption) rfl (by first | with_reducible rfl | with_reducible assumption) (by omega) (by with_reducible assumption) ?_
      | refine Wp.aiN rfl (by assumption) rfl (by first | with_reducible rfl | with_reducible assumption) (by omega) ?_
      | refine Wp.siN rfl (by assumption) rfl (by first | with_reducible rfl | with_reducible assumption) (by omega) ?_
      | refine Wp.rt rfl rfl rfl rfl ?_
      | refine Wp.rz rfl rfl (by decide) ?_)
  have hf := hn.1.pres hr (t2.ext hn.2)
  exact ⟨hf.1, hn.2.trans hf.2, rfl⟩
theorem c_cpr_o {J : xI} {c s a i : Nat} {x : Int32} (h : a ≠ c + 5 ∧ a ≠ c + 6) : c_cpr J c s x a i = J a i := by
  rw [c_cpr]
  split
  · rw [x_u_ne _ _ (by omega), x_u_ne _ _ (by omega)]
  · rfl
theorem c_vp_o {J : xI} {v s a i : Nat} {b c : Int32} (h : a ≠ v + 1 ∧ a ≠ v + 2) : c_vp J v s b c a i = J a i := by
  rw [c_vp]
  split
  · rw [x_u_ne _ _ (by omega), x_u_ne _ _ (by omega)]
  · rfl
theorem c_cav_o {J : xI} {c s a i : Nat} {x : Int32} (h : a ≠ c + 6) : c_cav J c s x a i = J a i := by
  rw [c_cav]
  split
  · rw [x_u_ne _ _ (by omega)]
  · rfl
set_option maxHeartbeats 4000000 in
theorem k_prop (d : Nat) (h : Rp M C) (hr : r < 5) (h1 : sl (C.2.1 r) < s) (h2 : s < 2 ^ 30) (c : Int32) : Ev (d + 4) 32 M [.ref (9 + 13 * r), .int (nI s), .int c] (fun M' v => Rp M' (c_prp C r s c) ∧ Ext 5 M M' ∧ v = none) := by
  obtain ⟨p1, p2, p3, p4, p5, p6⟩ := h.f hr
  obtain ⟨g1, g2, g3, g4, g5, g6, g7⟩ := h.g hr
  obtain ⟨t, t1, t2⟩ := h.hp hr
  obtain ⟨e1, e2, e3⟩ := t2.f
  have hi := h.i hr
  have hb : M.2.1 (9 + 13 * r + 6) 0 = C.1 (9 + 13 * r + 6) 0 := h.1 _ _ (by omega)
  have hu1 := (Iu.of h).cpr hr s c
  have hi1 : c_cpr M.2.1 (9 + 13 * r + 6) s c (9 + 13 * r) 0 = nI r := (c_cpr_o (by omega)).trans hi
  have hb1 : c_cpr M.2.1 (9 + 13 * r + 6) s c (9 + 13 * r + 6) 0 = C.1 (9 + 13 * r + 6) 0 := (c_cpr_o (by omega)).trans hb
  refine Ev.of (ls := [some (.ref (9 + 13 * r)), some (.int (nI s)), some (.int c), none]) rfl rfl ?_
  repeat' ((with_reducible fail_if_success show Wp _ _ 5 _ _ _ _); (first
      | (with_reducible refine Wp.lt (by omega) (by omega) (fun _ => ?_) (fun _ => ?_) <;> try (exfalso; omega))
      | (with_reducible refine Wp.le (by omega) (by omega) (fun _ => ?_) (fun _ => ?_) <;> try (exfalso; omega))
      | (with_reducible refine Wp.eq (by omega) (by omega) (fun _ => ?_) (fun _ => ?_) <;> try (exfalso; omega))
      | (with_reducible refine Wp.ne (by omega) (by omega) (fun _ => ?_) (fun _ => ?_) <;> try (exfalso; omega))
      | with_reducible refine Wp.lt0 (by omega) ?_
      | with_reducible refine Wp.ge0 (by omega) ?_
      | (with_reducible refine Wp.bz (fun _ => ?_) (fun _ => ?_) <;> try contradiction)
      | (with_reducible refine Wp.bn (fun _ => ?_) (fun _ => ?_) <;> try contradiction)
      | (with_reducible refine Wp.br (fun _ => ?_) (fun _ => ?_) <;> try contradiction)
      | refine Wp.gik rfl (by assumption) (by with_reducible assumption) ?_
      | refine Wp.gi rfl (by assumption) ?_
      | refine Wp.gz rfl (by assumption) ?_
      | refine Wp.gr rfl (by assumption) (by assumption) ?_
      | refine Wp.gn rfl (by assumption) (by assumption) ?_
      | refine Wp.gl rfl (by assumption) ?_
      | refine Wp.addn rfl (by with_reducible rfl) (by with_reducible rfl) ?_
      | refine Wp.muln rfl (by with_reducible rfl) (by with_reducible rfl) ?_
      | refine Wp.subn rfl (by with_reducible rfl) (by with_reducible rfl) (by omega) ?_
      | (refine Wp.decn rfl rfl ?_; dsimp only [List.set])
      | (refine Wp.incn rfl rfl ?_; dsimp only [List.set])
      | (refine Wp.go rfl rfl ?_; try dsimp only [List.set])
      | refine Wp.pi rfl (by assumption) ?_
      | refine Wp.pr rfl (by assumption) ?_
      | refine Wp.pn rfl (by assumption) ?_
      | refine Wp.pl rfl (by assumption) ?_
      | refine Wp.aik rfl (by assumption) rfl (by first | with_reducible rfl | with_reducible assumption) (by omega) (by with_reducible assumption) ?_
      | refine Wp.aiN rfl (by assumption) rfl (by first | with_reducible rfl | with_reducible assumption) (by omega) ?_
      | refine Wp.siN rfl (by assumption) rfl (by first | with_reducible rfl | with_reducible assumption) (by omega) ?_
      | refine Wp.rt rfl rfl rfl rfl ?_
      | refine Wp.rz rfl rfl (by decide) ?_))
  refine Wp.V1i rfl e1 rfl (w_memb (d + 2) t2 h1 h2) ?_
  repeat' ((with_reducible fail_if_success show Wp _ _ 15 _ _ _ _); (first
      | (with_reducible refine Wp.lt (by omega) (by omega) (fun _ => ?_) (fun _ => ?_) <;> try (exfalso; omega))
      | (with_reducible refine Wp.le (by omega) (by omega) (fun _ => ?_) (fun _ => ?_) <;> try (exfalso; omega))
      | (with_reducible refine Wp.eq (by omega) (by omega) (fun _ => ?_) (fun _ => ?_) <;> try (exfalso; omega))
      | (with_reducible refine Wp.ne (by omega) (by omega) (fun _ => ?_) (fun _ => ?_) <;> try (exfalso; omega))
      | with_reducible refine Wp.lt0 (by omega) ?_
      | with_reducible refine Wp.ge0 (by omega) ?_
      | (with_reducible refine Wp.bz (fun _ => ?_) (fun _ => ?_) <;> try contradiction)
      | (with_reducible refine Wp.bn (fun _ => ?_) (fun _ => ?_) <;> try contradiction)
      | (with_reducible refine Wp.br (fun _ => ?_) (fun _ => ?_) <;> try contradiction)
      | refine Wp.gik rfl (by assumption) (by with_reducible assumption) ?_
      | refine Wp.gi rfl (by assumption) ?_
      | refine Wp.gz rfl (by assumption) ?_
      | refine Wp.gr rfl (by assumption) (by assumption) ?_
      | refine Wp.gn rfl (by assumption) (by assumption) ?_
      | refine Wp.gl rfl (by assumption) ?_
      | refine Wp.addn rfl (by with_reducible rfl) (by with_reducible rfl) ?_
      | refine Wp.muln rfl (by with_reducible rfl) (by with_reducible rfl) ?_
      | refine Wp.subn rfl (by with_reducible rfl) (by with_reducible rfl) (by omega) ?_
      | (refine Wp.decn rfl rfl ?_; dsimp only [List.set])
      | (refine Wp.incn rfl rfl ?_; dsimp only [List.set])
      | (refine Wp.go rfl rfl ?_; try dsimp only [List.set])
      | refine Wp.pi rfl (by assumption) ?_
      | refine Wp.pr rfl (by assumption) ?_
      | refine Wp.pn rfl (by assumption) ?_
      | refine Wp.pl rfl (by assumption) ?_
      | refine Wp.aik rfl (by assumption) rfl (by first | with_reducible rfl | with_reducible assumption) (by omega) (by with_reducible assumption) ?_
      | refine Wp.aiN rfl (by assumption) rfl (by first | with_reducible rfl | with_reducible assumption) (by omega) ?_
      | refine Wp.siN rfl (by assumption) rfl (by first | with_reducible rfl | with_reducible assumption) (by omega) ?_
      | refine Wp.rt rfl rfl rfl rfl ?_
      | refine Wp.rz rfl rfl (by decide) ?_))
  refine Wp.V2v rfl g3 rfl (k_cpropose d M.2.1 (Z := zO M) c (by omega) (h.cK hr)).ev ?_
  repeat' ((with_reducible fail_if_success show Wp _ _ 26 _ _ _ _); (first
      | (with_reducible refine Wp.lt (by omega) (by omega) (fun _ => ?_) (fun _ => ?_) <;> try (exfalso; omega))
      | (with_reducible refine Wp.le (by omega) (by omega) (fun _ => ?_) (fun _ => ?_) <;> try (exfalso; omega))
      | (with_reducible refine Wp.eq (by omega) (by omega) (fun _ => ?_) (fun _ => ?_) <;> try (exfalso; omega))
      | (with_reducible refine Wp.ne (by omega) (by omega) (fun _ => ?_) (fun _ => ?_) <;> try (exfalso; omega))
      | with_reducible refine Wp.lt0 (by omega) ?_
      | with_reducible refine Wp.ge0 (by omega) ?_
      | (with_reducible refine Wp.bz (fun _ => ?_) (fun _ => ?_) <;> try contradiction)
      | (with_reducible refine Wp.bn (fun _ => ?_) (fun _ => ?_) <;> try contradiction)
      | (with_reducible refine Wp.br (fun _ => ?_) (fun _ => ?_) <;> try contradiction)
      | refine Wp.gik rfl (by assumption) (by with_reducible assumption) ?_
      | refine Wp.gi rfl (by assumption) ?_
      | refine Wp.gz rfl (by assumption) ?_
      | refine Wp.gr rfl (by assumption) (by assumption) ?_
      | refine Wp.gn rfl (by assumption) (by assumption) ?_
      | refine Wp.gl rfl (by assumption) ?_
      | refine Wp.addn rfl (by with_reducible rfl) (by with_reducible rfl) ?_
      | refine Wp.muln rfl (by with_reducible rfl) (by with_reducible rfl) ?_
      | refine Wp.subn rfl (by with_reducible rfl) (by with_reducible rfl) (by omega) ?_
      | (refine Wp.decn rfl rfl ?_; dsimp only [List.set])
      | (refine Wp.incn rfl rfl ?_; dsimp only [List.set])
      | (refine Wp.go rfl rfl ?_; try dsimp only [List.set])
      | refine Wp.pi rfl (by assumption) ?_
      | refine Wp.pr rfl (by assumption) ?_
      | refine Wp.pn rfl (by assumption) ?_
      | refine Wp.pl rfl (by assumption) ?_
      | refine Wp.aik rfl (by assumption) rfl (by first | with_reducible rfl | with_reducible assumption) (by omega) (by with_reducible assumption) ?_
      | refine Wp.aiN rfl (by assumption) rfl (by first | with_reducible rfl | with_reducible assumption) (by omega) ?_
      | refine Wp.siN rfl (by assumption) rfl (by first | with_reducible rfl | with_reducible assumption) (by omega) ?_
      | refine Wp.rt rfl rfl rfl rfl ?_
      | refine Wp.rz rfl rfl (by decide) ?_))
  iterate 2 (first
      | (with_reducible refine Wp.lt (by omega) (by omega) (fun _ => ?_) (fun _ => ?_) <;> try (exfalso; omega))
      | (with_reducible refine Wp.le (by omega) (by omega) (fun _ => ?_) (fun _ => ?_) <;> try (exfalso; omega))
      | (with_reducible refine Wp.eq (by omega) (by omega) (fun _ => ?_) (fun _ => ?_) <;> try (exfalso; omega))
      | (with_reducible refine Wp.ne (by omega) (by omega) (fun _ => ?_) (fun _ => ?_) <;> try (exfalso; omega))
      | with_reducible refine Wp.lt0 (by omega) ?_
      | with_reducible refine Wp.ge0 (by omega) ?_
      | (with_reducible refine Wp.bz (fun _ => ?_) (fun _ => ?_) <;> try contradiction)
      | (with_reducible refine Wp.bn (fun _ => ?_) (fun _ => ?_) <;> try contradiction)
      | (with_reducible refine Wp.br (fun _ => ?_) (fun _ => ?_) <;> try contradiction)
      | refine Wp.gik rfl (by assumption) (by with_reducible assumption) ?_
      | refine Wp.gi rfl (by assumption) ?_
      | refine Wp.gz rfl (by assumption) ?_
      | refine Wp.gr rfl (by assumption) (by assumption) ?_
      | refine Wp.gn rfl (by assumption) (by assumption) ?_
      | refine Wp.gl rfl (by assumption) ?_
      | refine Wp.addn rfl (by with_reducible rfl) (by with_reducible rfl) ?_
      | refine Wp.muln rfl (by with_reducible rfl) (by with_reducible rfl) ?_
      | refine Wp.subn rfl (by with_reducible rfl) (by with_reducible rfl) (by omega) ?_
      | (refine Wp.decn rfl rfl ?_; dsimp only [List.set])
      | (refine Wp.incn rfl rfl ?_; dsimp only [List.set])
      | (refine Wp.go rfl rfl ?_; try dsimp only [List.set])
      | refine Wp.pi rfl (by assumption) ?_
      | refine Wp.pr rfl (by assumption) ?_
      | refine Wp.pn rfl (by assumption) ?_
      | refine Wp.pl rfl (by assumption) ?_
      | refine Wp.aik rfl (by assumption) rfl (by first | with_reducible rfl | with_reducible assumption) (by omega) (by with_reducible assumption) ?_
      | refine Wp.aiN rfl (by assumption) rfl (by first | with_reducible rfl | with_reducible assumption) (by omega) ?_
      | refine Wp.siN rfl (by assumption) rfl (by first | with_reducible rfl | with_reducible assumption) (by omega) ?_
      | refine Wp.rt rfl rfl rfl rfl ?_
      | refine Wp.rz rfl rfl (by decide) ?_)
  · rename_i hc
    have hn := hu1.rp h
    repeat' ((with_reducible fail_if_success show Wp _ _ 60 _ _ _ _); (first
      | (with_reducible refine Wp.lt (by omega) (by omega) (fun _ => ?_) (fun _ => ?_) <;> try (exfalso; omega))
      | (with_reducible refine Wp.le (by omega) (by omega) (fun _ => ?_) (fun _ => ?_) <;> try (exfalso; omega))
      | (with_reducible refine Wp.eq (by omega) (by omega) (fun _ => ?_) (fun _ => ?_) <;> try (exfalso; omega))
      | (with_reducible refine Wp.ne (by omega) (by omega) (fun _ => ?_) (fun _ => ?_) <;> try (exfalso; omega))
      | with_reducible refine Wp.lt0 (by omega) ?_
      | with_reducible refine Wp.ge0 (by omega) ?_
      | (with_reducible refine Wp.bz (fun _ => ?_) (fun _ => ?_) <;> try contradiction)
      | (with_reducible refine Wp.bn (fun _ => ?_) (fun _ => ?_) <;> try contradiction)
      | (with_reducible refine Wp.br (fun _ => ?_) (fun _ => ?_) <;> try contradiction)
      | refine Wp.gik rfl (by assumption) (by with_reducible assumption) ?_
      | refine Wp.gi rfl (by assumption) ?_
      | refine Wp.gz rfl (by assumption) ?_
      | refine Wp.gr rfl (by assumption) (by assumption) ?_
      | refine Wp.gn rfl (by assumption) (by assumption) ?_
      | refine Wp.gl rfl (by assumption) ?_
      | refine Wp.addn rfl (by with_reducible rfl) (by with_reducible rfl) ?_
      | refine Wp.muln rfl (by with_reducible rfl) (by with_reducible rfl) ?_
      | refine Wp.subn rfl (by with_reducible rfl) (by with_reducible rfl) (by omega) ?_
      | (refine Wp.decn rfl rfl ?_; dsimp only [List.set])
      | (refine Wp.incn rfl rfl ?_; dsimp only [List.set])
      | (refine Wp.go rfl rfl ?_; try dsimp only [List.set])
      | refine Wp.pi rfl (by assumption) ?_
      | refine Wp.pr rfl (by assumption) ?_
      | refine Wp.pn rfl (by assumption) ?_
      | refine Wp.pl rfl (by assumption) ?_
      | refine Wp.aik rfl (by assumption) rfl (by first | with_reducible rfl | with_reducible assumption) (by omega) (by with_reducible assumption) ?_
      | refine Wp.aiN rfl (by assumption) rfl (by first | with_reducible rfl | with_reducible assumption) (by omega) ?_
      | refine Wp.siN rfl (by assumption) rfl (by first | with_reducible rfl | with_reducible assumption) (by omega) ?_
      | refine Wp.rt rfl rfl rfl rfl ?_
      | refine Wp.rz rfl rfl (by decide) ?_))
    refine Wp.V0i rfl p1 rfl (w_oth (d + 2) hn.1 hr) ?_
    repeat' ((with_reducible fail_if_success show Wp _ _ 74 _ _ _ _); (first
      | (with_reducible refine Wp.lt (by omega) (by omega) (fun _ => ?_) (fun _ => ?_) <;> try (exfalso; omega))
      | (with_reducible refine Wp.le (by omega) (by omega) (fun _ => ?_) (fun _ => ?_) <;> try (exfalso; omega))
      | (with_reducible refine Wp.eq (by omega) (by omega) (fun _ => ?_) (fun _ => ?_) <;> try (exfalso; omega))
      | (with_reducible refine Wp.ne (by omega) (by omega) (fun _ => ?_) (fun _ => ?_) <;> try (exfalso; omega))
      | with_reducible refine Wp.lt0 (by omega) ?_
      | with_reducible refine Wp.ge0 (by omega) ?_
      | (with_reducible refine Wp.bz (fun _ => ?_) (fun _ => ?_) <;> try contradiction)
      | (with_reducible refine Wp.bn (fun _ => ?_) (fun _ => ?_) <;> try contradiction)
      | (with_reducible refine Wp.br (fun _ => ?_) (fun _ => ?_) <;> try contradiction)
      | refine Wp.gik rfl (by assumption) (by with_reducible assumption) ?_
      | refine Wp.gi rfl (by assumption) ?_
      | refine Wp.gz rfl (by assumption) ?_
      | refine Wp.gr rfl (by assumption) (by assumption) ?_
      | refine Wp.gn rfl (by assumption) (by assumption) ?_
      | refine Wp.gl rfl (by assumption) ?_
      | refine Wp.addn rfl (by with_reducible rfl) (by with_reducible rfl) ?_
      | refine Wp.muln rfl (by with_reducible rfl) (by with_reducible rfl) ?_
      | refine Wp.subn rfl (by with_reducible rfl) (by with_reducible rfl) (by omega) ?_
      | (refine Wp.decn rfl rfl ?_; dsimp only [List.set])
      | (refine Wp.incn rfl rfl ?_; dsimp only [List.set])
      | (refine Wp.go rfl rfl ?_; try dsimp only [List.set])
      | refine Wp.pi rfl (by assumption) ?_
      | refine Wp.pr rfl (by assumption) ?_
      | refine Wp.pn rfl (by assumption) ?_
      | refine Wp.pl rfl (by assumption) ?_
      | refine Wp.aik rfl (by assumption) rfl (by first | with_reducible rfl | with_reducible assumption) (by omega) (by with_reducible assumption) ?_
      | refine Wp.aiN rfl (by assumption) rfl (by first | with_reducible rfl | with_reducible assumption) (by omega) ?_
      | refine Wp.siN rfl (by assumption) rfl (by first | with_reducible rfl | with_reducible assumption) (by omega) ?_
      | refine Wp.rt rfl rfl rfl rfl ?_
      | refine Wp.rz rfl rfl (by decide) ?_))
    refine Wp.V5 rfl p1 rfl (k_send d hr _ (nI 3) (C.1 (9 + 13 * r + 6) 0) (nI s) c hn.1) (fun M' v hq => ?_)
    obtain ⟨k1, k2, rfl⟩ := hq
    repeat' (first
      | (with_reducible refine Wp.lt (by omega) (by omega) (fun _ => ?_) (fun _ => ?_) <;> try (exfalso; omega))
      | (with_reducible refine Wp.le (by omega) (by omega) (fun _ => ?_) (fun _ => ?_) <;> try (exfalso; omega))
      | (with_reducible refine Wp.eq (by omega) (by omega) (fun _ => ?_) (fun _ => ?_) <;> try (exfalso; omega))
      | (with_reducible refine Wp.ne (by omega) (by omega) (fun _ => ?_) (fun _ => ?_) <;> try (exfalso; omega))
      | with_reducible refine Wp.lt0 (by omega) ?_
      | with_reducible refine Wp.ge0 (by omega) ?_
      | (with_reducible refine Wp.bz (fun _ => ?_) (fun _ => ?_) <;> try contradiction)
      | (with_reducible refine Wp.bn (fun _ => ?_) (fun _ => ?_) <;> try contradiction)
      | (with_reducible refine Wp.br (fun _ => ?_) (fun _ => ?_) <;> try contradiction)
      | refine Wp.gik rfl (by assumption) (by with_reducible assumption) ?_
      | refine Wp.gi rfl (by assumption) ?_
      | refine Wp.gz rfl (by assumption) ?_
      | refine Wp.gr rfl (by assumption) (by assumption) ?_
      | refine Wp.gn rfl (by assumption) (by assumption) ?_
      | refine Wp.gl rfl (by assumption) ?_
      | refine Wp.addn rfl (by with_reducible rfl) (by with_reducible rfl) ?_
      | refine Wp.muln rfl (by with_reducible rfl) (by with_reducible rfl) ?_
      | refine Wp.subn rfl (by with_reducible rfl) (by with_reducible rfl) (by omega) ?_
      | (refine Wp.decn rfl rfl ?_; dsimp only [List.set])
      | (refine Wp.incn rfl rfl ?_; dsimp only [List.set])
      | (refine Wp.go rfl rfl ?_; try dsimp only [List.set])
      | refine Wp.pi rfl (by assumption) ?_
      | refine Wp.pr rfl (by assumption) ?_
      | refine Wp.pn rfl (by assumption) ?_
      | refine Wp.pl rfl (by assumption) ?_
      | refine Wp.aik rfl (by assumption) rfl (by first | with_reducible rfl | with_reducible assumption) (by omega) (by with_reducible assumption) ?_
      | refine Wp.aiN rfl (by assumption) rfl (by first | with_reducible rfl | with_reducible assumption) (by omega) ?_
      | refine Wp.siN rfl (by assumption) rfl (by first | with_reducible rfl | with_reducible assumption) (by omega) ?_
      | refine Wp.rt rfl rfl rfl rfl ?_
      | refine Wp.rz rfl rfl (by decide) ?_)
    refine ⟨?_, hn.2.trans k2, rfl⟩
    rw [c_prp, c_prJ, if_neg (by rw [c_bt, decide_eq_false (fun q => q hc)]; decide)]
    exact k1
  · rename_i hc
    have hu2 := (hu1.vp hr s (C.1 (9 + 13 * r + 6) 0) c).cav hr s (nI r)
    have hn := hu2.rp h
    have hi2 : c_vp (c_cpr M.2.1 (9 + 13 * r + 6) s c) (9 + 13 * r + 1) s (C.1 (9 + 13 * r + 6) 0) c (9 + 13 * r) 0 = nI r := (c_vp_o (by omega)).trans hi1
    have hb3 : c_cav (c_vp (c_cpr M.2.1 (9 + 13 * r + 6) s c) (9 + 13 * r + 1) s (C.1 (9 + 13 * r + 6) 0) c) (9 + 13 * r + 6) s (nI r) (9 + 13 * r + 6) 0 = C.1 (9 + 13 * r + 6) 0 := (c_cav_o (by omega)).trans ((c_vp_o (by omega)).trans hb1)
    repeat' ((with_reducible fail_if_success show Wp _ _ 42 _ _ _ _); (first
      | (with_reducible refine Wp.lt (by omega) (by omega) (fun _ => ?_) (fun _ => ?_) <;> try (exfalso; omega))
      | (with_reducible refine Wp.le (by omega) (by omega) (fun _ => ?_) (fun _ => ?_) <;> try (exfalso; omega))
      | (with_reducible refine Wp.eq (by omega) (by omega) (fun _ => ?_) (fun _ => ?_) <;> try (exfalso; omega))
      | (with_reducible refine Wp.ne (by omega) (by omega) (fun _ => ?_) (fun _ => ?_) <;> try (exfalso; omega))
      | with_reducible refine Wp.lt0 (by omega) ?_
      | with_reducible refine Wp.ge0 (by omega) ?_
      | (with_reducible refine Wp.bz (fun _ => ?_) (fun _ => ?_) <;> try contradiction)
      | (with_reducible refine Wp.bn (fun _ => ?_) (fun _ => ?_) <;> try contradiction)
      | (with_reducible refine Wp.br (fun _ => ?_) (fun _ => ?_) <;> try contradiction)
      | refine Wp.gik rfl (by assumption) (by with_reducible assumption) ?_
      | refine Wp.gi rfl (by assumption) ?_
      | refine Wp.gz rfl (by assumption) ?_
      | refine Wp.gr rfl (by assumption) (by assumption) ?_
      | refine Wp.gn rfl (by assumption) (by assumption) ?_
      | refine Wp.gl rfl (by assumption) ?_
      | refine Wp.addn rfl (by with_reducible rfl) (by with_reducible rfl) ?_
      | refine Wp.muln rfl (by with_reducible rfl) (by with_reducible rfl) ?_
      | refine Wp.subn rfl (by with_reducible rfl) (by with_reducible rfl) (by omega) ?_
      | (refine Wp.decn rfl rfl ?_; dsimp only [List.set])
      | (refine Wp.incn rfl rfl ?_; dsimp only [List.set])
      | (refine Wp.go rfl rfl ?_; try dsimp only [List.set])
      | refine Wp.pi rfl (by assumption) ?_
      | refine Wp.pr rfl (by assumption) ?_
      | refine Wp.pn rfl (by assumption) ?_
      | refine Wp.pl rfl (by assumption) ?_
      | refine Wp.aik rfl (by assumption) rfl (by first | with_reducible rfl | with_reducible assumption) (by omega) (by with_reducible assumption) ?_
      | refine Wp.aiN rfl (by assumption) rfl (by first | with_reducible rfl | with_reducible assumption) (by omega) ?_
      | refine Wp.siN rfl (by assumption) rfl (by first | with_reducible rfl | with_reducible assumption) (by omega) ?_
      | refine Wp.rt rfl rfl rfl rfl ?_
      | refine Wp.rz rfl rfl (by decide) ?_))
    refine Wp.V3v rfl g1 rfl (ER.ev (M := (M.1, c_cpr M.2.1 (9 + 13 * r + 6) s c, M.2.2)) (k_vput (d + 1) (c_cpr M.2.1 (9 + 13 * r + 6) s c) (Z := zO M) (C.1 (9 + 13 * r + 6) 0) c (by omega) (h.vK hr))) ?_
    repeat' ((with_reducible fail_if_success show Wp _ _ 54 _ _ _ _); (first
      | (with_reducible refine Wp.lt (by omega) (by omega) (fun _ => ?_) (fun _ => ?_) <;> try (exfalso; omega))
      | (with_reducible refine Wp.le (by omega) (by omega) (fun _ => ?_) (fun _ => ?_) <;> try (exfalso; omega))
      | (with_reducible refine Wp.eq (by omega) (by omega) (fun _ => ?_) (fun _ => ?_) <;> try (exfalso; omega))
      | (with_reducible refine Wp.ne (by omega) (by omega) (fun _ => ?_) (fun _ => ?_) <;> try (exfalso; omega))
      | with_reducible refine Wp.lt0 (by omega) ?_
      | with_reducible refine Wp.ge0 (by omega) ?_
      | (with_reducible refine Wp.bz (fun _ => ?_) (fun _ => ?_) <;> try contradiction)
      | (with_reducible refine Wp.bn (fun _ => ?_) (fun _ => ?_) <;> try contradiction)
      | (with_reducible refine Wp.br (fun _ => ?_) (fun _ => ?_) <;> try contradiction)
      | refine Wp.gik rfl (by assumption) (by with_reducible assumption) ?_
      | refine Wp.gi rfl (by assumption) ?_
      | refine Wp.gz rfl (by assumption) ?_
      | refine Wp.gr rfl (by assumption) (by assumption) ?_
      | refine Wp.gn rfl (by assumption) (by assumption) ?_
      | refine Wp.gl rfl (by assumption) ?_
      | refine Wp.addn rfl (by with_reducible rfl) (by with_reducible rfl) ?_
      | refine Wp.muln rfl (by with_reducible rfl) (by with_reducible rfl) ?_
      | refine Wp.subn rfl (by with_reducible rfl) (by with_reducible rfl) (by omega) ?_
      | (refine Wp.decn rfl rfl ?_; dsimp only [List.set])
      | (refine Wp.incn rfl rfl ?_; dsimp only [List.set])
      | (refine Wp.go rfl rfl ?_; try dsimp only [List.set])
      | refine Wp.pi rfl (by assumption) ?_
      | refine Wp.pr rfl (by assumption) ?_
      | refine Wp.pn rfl (by assumption) ?_
      | refine Wp.pl rfl (by assumption) ?_
      | refine Wp.aik rfl (by assumption) rfl (by first | with_reducible rfl | with_reducible assumption) (by omega) (by with_reducible assumption) ?_
      | refine Wp.aiN rfl (by assumption) rfl (by first | with_reducible rfl | with_reducible assumption) (by omega) ?_
      | refine Wp.siN rfl (by assumption) rfl (by first | with_reducible rfl | with_reducible assumption) (by omega) ?_
      | refine Wp.rt rfl rfl rfl rfl ?_
      | refine Wp.rz rfl rfl (by decide) ?_))
    refine Wp.V2v rfl g3 rfl (ER.ev (M := (M.1, c_vp (c_cpr M.2.1 (9 + 13 * r + 6) s c) (9 + 13 * r + 1) s (C.1 (9 + 13 * r + 6) 0) c, M.2.2)) (k_caddVoter (d + 1) (c_vp (c_cpr M.2.1 (9 + 13 * r + 6) s c) (9 + 13 * r + 1) s (C.1 (9 + 13 * r + 6) 0) c) (Z := zO M) (nI r) (by omega) (h.cK hr))) ?_
    repeat' ((with_reducible fail_if_success show Wp _ _ 60 _ _ _ _); (first
      | (with_reducible refine Wp.lt (by omega) (by omega) (fun _ => ?_) (fun _ => ?_) <;> try (exfalso; omega))
      | (with_reducible refine Wp.le (by omega) (by omega) (fun _ => ?_) (fun _ => ?_) <;> try (exfalso; omega))
      | (with_reducible refine Wp.eq (by omega) (by omega) (fun _ => ?_) (fun _ => ?_) <;> try (exfalso; omega))
      | (with_reducible refine Wp.ne (by omega) (by omega) (fun _ => ?_) (fun _ => ?_) <;> try (exfalso; omega))
      | with_reducible refine Wp.lt0 (by omega) ?_
      | with_reducible refine Wp.ge0 (by omega) ?_
      | (with_reducible refine Wp.bz (fun _ => ?_) (fun _ => ?_) <;> try contradiction)
      | (with_reducible refine Wp.bn (fun _ => ?_) (fun _ => ?_) <;> try contradiction)
      | (with_reducible refine Wp.br (fun _ => ?_) (fun _ => ?_) <;> try contradiction)
      | refine Wp.gik rfl (by assumption) (by with_reducible assumption) ?_
      | refine Wp.gi rfl (by assumption) ?_
      | refine Wp.gz rfl (by assumption) ?_
      | refine Wp.gr rfl (by assumption) (by assumption) ?_
      | refine Wp.gn rfl (by assumption) (by assumption) ?_
      | refine Wp.gl rfl (by assumption) ?_
      | refine Wp.addn rfl (by with_reducible rfl) (by with_reducible rfl) ?_
      | refine Wp.muln rfl (by with_reducible rfl) (by with_reducible rfl) ?_
      | refine Wp.subn rfl (by with_reducible rfl) (by with_reducible rfl) (by omega) ?_
      | (refine Wp.decn rfl rfl ?_; dsimp only [List.set])
      | (refine Wp.incn rfl rfl ?_; dsimp only [List.set])
      | (refine Wp.go rfl rfl ?_; try dsimp only [List.set])
      | refine Wp.pi rfl (by assumption) ?_
      | refine Wp.pr rfl (by assumption) ?_
      | refine Wp.pn rfl (by assumption) ?_
      | refine Wp.pl rfl (by assumption) ?_
      | refine Wp.aik rfl (by assumption) rfl (by first | with_reducible rfl | with_reducible assumption) (by omega) (by with_reducible assumption) ?_
      | refine Wp.aiN rfl (by assumption) rfl (by first | with_reducible rfl | with_reducible assumption) (by omega) ?_
      | refine Wp.siN rfl (by assumption) rfl (by first | with_reducible rfl | with_reducible assumption) (by omega) ?_
      | refine Wp.rt rfl rfl rfl rfl ?_
      | refine Wp.rz rfl rfl (by decide) ?_))
    refine Wp.V0i rfl p1 rfl (w_oth (d + 2) hn.1 hr) ?_
    repeat' ((with_reducible fail_if_success show Wp _ _ 74 _ _ _ _); (first
      | (with_reducible refine Wp.lt (by omega) (by omega) (fun _ => ?_) (fun _ => ?_) <;> try (exfalso; omega))
      | (with_reducible refine Wp.le (by omega) (by omega) (fun _ => ?_) (fun _ => ?_) <;> try (exfalso; omega))
      | (with_reducible refine Wp.eq (by omega) (by omega) (fun _ => ?_) (fun _ => ?_) <;> try (exfalso; omega))
      | (with_reducible refine Wp.ne (by omega) (by omega) (fun _ => ?_) (fun _ => ?_) <;> try (exfalso; omega))
      | with_reducible refine Wp.lt0 (by omega) ?_
      | with_reducible refine Wp.ge0 (by omega) ?_
      | (with_reducible refine Wp.bz (fun _ => ?_) (fun _ => ?_) <;> try contradiction)
      | (with_reducible refine Wp.bn (fun _ => ?_) (fun _ => ?_) <;> try contradiction)
      | (with_reducible refine Wp.br (fun _ => ?_) (fun _ => ?_) <;> try contradiction)
      | refine Wp.gik rfl (by assumption) (by with_reducible assumption) ?_
      | refine Wp.gi rfl (by assumption) ?_
      | refine Wp.gz rfl (by assumption) ?_
      | refine Wp.gr rfl (by assumption) (by assumption) ?_
      | refine Wp.gn rfl (by assumption) (by assumption) ?_
      | refine Wp.gl rfl (by assumption) ?_
      | refine Wp.addn rfl (by with_reducible rfl) (by with_reducible rfl) ?_
      | refine Wp.muln rfl (by with_reducible rfl) (by with_reducible rfl) ?_
      | refine Wp.subn rfl (by with_reducible rfl) (by with_reducible rfl) (by omega) ?_
      | (refine Wp.decn rfl rfl ?_; dsimp only [List.set])
      | (refine Wp.incn rfl rfl ?_; dsimp only [List.set])
      | (refine Wp.go rfl rfl ?_; try dsimp only [List.set])
      | refine Wp.pi rfl (by assumption) ?_
      | refine Wp.pr rfl (by assumption) ?_
      | refine Wp.pn rfl (by assumption) ?_
      | refine Wp.pl rfl (by assumption) ?_
      | refine Wp.aik rfl (by assumption) rfl (by first | with_reducible rfl | with_reducible assumption) (by omega) (by with_reducible assumption) ?_
      | refine Wp.aiN rfl (by assumption) rfl (by first | with_reducible rfl | with_reducible assumption) (by omega) ?_
      | refine Wp.siN rfl (by assumption) rfl (by first | with_reducible rfl | with_reducible assumption) (by omega) ?_
      | refine Wp.rt rfl rfl rfl rfl ?_
      | refine Wp.rz rfl rfl (by decide) ?_))
    refine Wp.V5 rfl p1 rfl (k_send d hr _ (nI 3) (C.1 (9 + 13 * r + 6) 0) (nI s) c hn.1) (fun M' v hq => ?_)
    obtain ⟨k1, k2, rfl⟩ := hq
    repeat' (first
      | (with_reducible refine Wp.lt (by omega) (by omega) (fun _ => ?_) (fun _ => ?_) <;> try (exfalso; omega))
      | (with_reducible refine Wp.le (by omega) (by omega) (fun _ => ?_) (fun _ => ?_) <;> try (exfalso; omega))
      | (with_reducible refine Wp.eq (by omega) (by omega) (fun _ => ?_) (fun _ => ?_) <;> try (exfalso; omega))
      | (with_reducible refine Wp.ne (by omega) (by omega) (fun _ => ?_) (fun _ => ?_) <;> try (exfalso; omega))
      | with_reducible refine Wp.lt0 (by omega) ?_
      | with_reducible refine Wp.ge0 (by omega) ?_
      | (with_reducible refine Wp.bz (fun _ => ?_) (fun _ => ?_) <;> try contradiction)
      | (with_reducible refine Wp.bn (fun _ => ?_) (fun _ => ?_) <;> try contradiction)
      | (with_reducible refine Wp.br (fun _ => ?_) (fun _ => ?_) <;> try contradiction)
      | refine Wp.gik rfl (by assumption) (by with_reducible assumption) ?_
      | refine Wp.gi rfl (by assumption) ?_
      | refine Wp.gz rfl (by assumption) ?_
      | refine Wp.gr rfl (by assumption) (by assumption) ?_
      | refine Wp.gn rfl (by assumption) (by assumption) ?_
      | refine Wp.gl rfl (by assumption) ?_
      | refine Wp.addn rfl (by with_reducible rfl) (by with_reducible rfl) ?_
      | refine Wp.muln rfl (by with_reducible rfl) (by with_reducible rfl) ?_
      | refine Wp.subn rfl (by with_reducible rfl) (by with_reducible rfl) (by omega) ?_
      | (refine Wp.decn rfl rfl ?_; dsimp only [List.set])
      | (refine Wp.incn rfl rfl ?_; dsimp only [List.set])
      | (refine Wp.go rfl rfl ?_; try dsimp only [List.set])
      | refine Wp.pi rfl (by assumption) ?_
      | refine Wp.pr rfl (by assumption) ?_
      | refine Wp.pn rfl (by assumption) ?_
      | refine Wp.pl rfl (by assumption) ?_
      | refine Wp.aik rfl (by assumption) rfl (by first | with_reducible rfl | with_reducible assumption) (by omega) (by with_reducible assumption) ?_
      | refine Wp.aiN rfl (by assumption) rfl (by first | with_reducible rfl | with_reducible assumption) (by omega) ?_
      | refine Wp.siN rfl (by assumption) rfl (by first | with_reducible rfl | with_reducible assumption) (by omega) ?_
      | refine Wp.rt rfl rfl rfl rfl ?_
      | refine Wp.rz rfl rfl (by decide) ?_)
    refine ⟨?_, hn.2.trans k2, rfl⟩
    rw [c_prp, c_prJ, if_pos (by rw [c_bt, decide_eq_true hc])]
    exact k1
theorem c_exe_ok (h : Rp M C) (hr : r < 5) {q : Nat} (hq : q ≤ c_n C) (hf : sl (C.2.1 r) < 24) : sl (c_exS C r q) = sl (C.2.1 r) + 1 := by
  obtain ⟨t, t1, t2⟩ := h.hp hr
  rw [c_exS]
  split
  · exact (s_new_ok t2.2.2.2.2 hf).2
  · obtain ⟨n1, n2, qa, n3, n4⟩ := h.n
    exact (s_aft_ok q t2.2.2.2.2 hf (n3 q (by omega) hq).2.2.2.2).2
set_option maxHeartbeats 4000000 in
theorem k_exe (d : Nat) (h : Rp M C) (hr : r < 5) {q : Nat} (hq : q ≤ c_n C) (hf : sl (C.2.1 r) < 24) : Ev (d + 4) 49 M [.ref (9 + 13 * r), .int (nI q)] (fun M' v => Rp M' (c_exe C r q) ∧ Ext 3 M M' ∧ v = none) := by
  obtain ⟨p1, p2, p3, p4, p5, p6⟩ := h.f hr
  obtain ⟨t, t1, t2⟩ := h.hp hr
  obtain ⟨e1, e2, e3⟩ := t2.f
  obtain ⟨n1, n2, qa, n3, n4⟩ := h.n
  have hcl := h.2.2.1.2.2.1
  have c1 : M.1[1]? = some (false, 1, 2) := hcl.1
  have hn : M.2.1 1 1 = nI (c_n C) := (h.1 1 1 (by omega)).trans n1
  refine Ev.of (ls := [some (.ref (9 + 13 * r)), some (.int (nI q))]) rfl rfl ?_
  repeat' ((with_reducible fail_if_success show Wp _ _ 11 _ _ _ _); (first
      | (with_reducible refine Wp.lt (by omega) (by omega) (fun _ => ?_) (fun _ => ?_) <;> try (exfalso; omega))
      | (with_reducible refine Wp.le (by omega) (by omega) (fun _ => ?_) (fun _ => ?_) <;> try (exfalso; omega))
      | (with_reducible refine Wp.eq (by omega) (by omega) (fun _ => ?_) (fun _ => ?_) <;> try (exfalso; omega))
      | (with_reducible refine Wp.ne (by omega) (by omega) (fun _ => ?_) (fun _ => ?_) <;> try (exfalso; omega))
      | with_reducible refine Wp.lt0 (by omega) ?_
      | with_reducible refine Wp.ge0 (by omega) ?_
      | (with_reducible refine Wp.bz (fun _ => ?_) (fun _ => ?_) <;> try contradiction)
      | (with_reducible refine Wp.bn (fun _ => ?_) (fun _ => ?_) <;> try contradiction)
      | (with_reducible refine Wp.br (fun _ => ?_) (fun _ => ?_) <;> try contradiction)
      | refine Wp.gik rfl (by assumption) (by with_reducible assumption) ?_
      | refine Wp.gi rfl (by assumption) ?_
      | refine Wp.gz rfl (by assumption) ?_
      | refine Wp.gr rfl (by assumption) (by assumption) ?_
      | refine Wp.gn rfl (by assumption) (by assumption) ?_
      | refine Wp.gl rfl (by assumption) ?_
      | refine Wp.addn rfl (by with_reducible rfl) (by with_reducible rfl) ?_
      | refine Wp.muln rfl (by with_reducible rfl) (by with_reducible rfl) ?_
      | refine Wp.subn rfl (by with_reducible rfl) (by with_reducible rfl) (by omega) ?_
      | (refine Wp.decn rfl rfl ?_; dsimp only [List.set])
      | (refine Wp.incn rfl rfl ?_; dsimp only [List.set])
      | (refine Wp.go rfl rfl ?_; try dsimp only [List.set])
      | refine Wp.pi rfl (by assumption) ?_
      | refine Wp.pr rfl (by assumption) ?_
      | refine Wp.pn rfl (by assumption) ?_
      | refine Wp.pl rfl (by assumption) ?_
      | refine Wp.aik rfl (by assumption) rfl (by first | with_reducible rfl | with_reducible assumption) (by omega) (by with_reducible assumption) ?_
      | refine Wp.aiN rfl (by assumption) rfl (by first | with_reducible rfl | with_reducible assumption) (by omega) ?_
      | refine Wp.siN rfl (by assumption) rfl (by first | with_reducible rfl | with_reducible assumption) (by omega) ?_
      | refine Wp.rt rfl rfl rfl rfl ?_
      | refine Wp.rz rfl rfl (by decide) ?_))
  by_cases h0 : q = 0
  · subst h0
    refine Wp.V1i rfl c1 rfl (k_find_n (d + 2) M.2.1 (Z := zO M) hcl hn (Or.inl (by decide))).ev0 ?_
    refine Wp.V2 rfl e1 rfl (k_after_n d h.2.1 t2 hf) (fun M' v hq' => ?_)
    obtain ⟨a, rfl, a1, a2, a3, a4, a5⟩ := hq'
    have hg := h.grow (b := 3) a1 a4 a5 a2
    have hm := hg.1.pres hr a3
    have p1' : M'.1[9 + 13 * r]? = some (false, 5, 10) := (hg.1.f hr).1
    show Wp (d + 3) 49 17 _ [.ref a, .ref _] M' _
    refine Wp.pr rfl p1' ?_
    repeat' (first
      | (with_reducible refine Wp.lt (by omega) (by omega) (fun _ => ?_) (fun _ => ?_) <;> try (exfalso; omega))
      | (with_reducible refine Wp.le (by omega) (by omega) (fun _ => ?_) (fun _ => ?_) <;> try (exfalso; omega))
      | (with_reducible refine Wp.eq (by omega) (by omega) (fun _ => ?_) (fun _ => ?_) <;> try (exfalso; omega))
      | (with_reducible refine Wp.ne (by omega) (by omega) (fun _ => ?_) (fun _ => ?_) <;> try (exfalso; omega))
      | with_reducible refine Wp.lt0 (by omega) ?_
      | with_reducible refine Wp.ge0 (by omega) ?_
      | (with_reducible refine Wp.bz (fun _ => ?_) (fun _ => ?_) <;> try contradiction)
      | (with_reducible refine Wp.bn (fun _ => ?_) (fun _ => ?_) <;> try contradiction)
      | (with_reducible refine Wp.br (fun _ => ?_) (fun _ => ?_) <;> try contradiction)
      | refine Wp.gik rfl (by assumption) (by with_reducible assumption) ?_
      | refine Wp.gi rfl (by assumption) ?_
      | refine Wp.gz rfl (by assumption) ?_
      | refine Wp.gr rfl (by assumption) (by assumption) ?_
      | refine Wp.gn rfl (by assumption) (by assumption) ?_
      | refine Wp.gl rfl (by assumption) ?_
      | refine Wp.addn rfl (by with_reducible rfl) (by with_reducible rfl) ?_
      | refine Wp.muln rfl (by with_reducible rfl) (by with_reducible rfl) ?_
      | refine Wp.subn rfl (by with_reducible rfl) (by with_reducible rfl) (by omega) ?_
      | (refine Wp.decn rfl rfl ?_; dsimp only [List.set])
      | (refine Wp.incn rfl rfl ?_; dsimp only [List.set])
      | (refine Wp.go rfl rfl ?_; try dsimp only [List.set])
      | refine Wp.pi rfl (by assumption) ?_
      | refine Wp.pr rfl (by assumption) ?_
      | refine Wp.pn rfl (by assumption) ?_
      | refine Wp.pl rfl (by assumption) ?_
      | refine Wp.aik rfl (by assumption) rfl (by first | with_reducible rfl | with_reducible assumption) (by omega) (by with_reducible assumption) ?_
      | refine Wp.aiN rfl (by assumption) rfl (by first | with_reducible rfl | with_reducible assumption) (by omega) ?_
      | refine Wp.siN rfl (by assumption) rfl (by first | with_reducible rfl | with_reducible assumption) (by omega) ?_
      | refine Wp.rt rfl rfl rfl rfl ?_
      | refine Wp.rz rfl rfl (by decide) ?_)
    rw [c_exe, if_neg (by simp), c_exS, if_pos rfl]
    exact ⟨hm.1, hg.2.trans hm.2, rfl⟩
  · obtain ⟨k1, k2, k3, k4, k5⟩ := n3 q (by omega) hq
    refine Wp.V1i rfl c1 rfl (k_find (d + 2) M.2.1 (Z := zO M) hcl hn n2 (by omega) hq k1).ev0 ?_
    refine Wp.V2 rfl e1 rfl (k_after d h.2.1 t2 hf k2 k4 k5 (by omega)) (fun M' v hq' => ?_)
    obtain ⟨a, rfl, a1, a2, a3, a4, a5⟩ := hq'
    have hg := h.grow (b := 3) a1 a4 a5 a2
    have hm := hg.1.pres hr a3
    have p1' : M'.1[9 + 13 * r]? = some (false, 5, 10) := (hg.1.f hr).1
    have r1' : x_u M'.2.2.2 (9 + 13 * r) 7 (some a) (9 + 13 * r) 1 = some 1 := (x_u_ne _ _ (by omega)).trans (hg.1.f hr).2.1
    have r7' : x_u M'.2.2.2 (9 + 13 * r) 7 (some a) (9 + 13 * r) 7 = some a := x_u_eq _ _ _ _
    have c1' : M'.1[1]? = some (false, 1, 2) := x_pre a1 c1
    have eS : c_exS C r q = s_aft (C.2.1 r) q (C.2.2.2.1 q) := if_neg h0
    show Wp (d + 3) 49 17 _ [.ref a, .ref _] M' _
    refine Wp.pr rfl p1' ?_
    repeat' ((with_reducible fail_if_success show Wp _ _ 21 _ _ _ _); (first
      | (with_reducible refine Wp.lt (by omega) (by omega) (fun _ => ?_) (fun _ => ?_) <;> try (exfalso; omega))
      | (with_reducible refine Wp.le (by omega) (by omega) (fun _ => ?_) (fun _ => ?_) <;> try (exfalso; omega))
      | (with_reducible refine Wp.eq (by omega) (by omega) (fun _ => ?_) (fun _ => ?_) <;> try (exfalso; omega))
      | (with_reducible refine Wp.ne (by omega) (by omega) (fun _ => ?_) (fun _ => ?_) <;> try (exfalso; omega))
      | with_reducible refine Wp.lt0 (by omega) ?_
      | with_reducible refine Wp.ge0 (by omega) ?_
      | (with_reducible refine Wp.bz (fun _ => ?_) (fun _ => ?_) <;> try contradiction)
      | (with_reducible refine Wp.bn (fun _ => ?_) (fun _ => ?_) <;> try contradiction)
      | (with_reducible refine Wp.br (fun _ => ?_) (fun _ => ?_) <;> try contradiction)
      | refine Wp.gik rfl (by assumption) (by with_reducible assumption) ?_
      | refine Wp.gi rfl (by assumption) ?_
      | refine Wp.gz rfl (by assumption) ?_
      | refine Wp.gr rfl (by assumption) (by assumption) ?_
      | refine Wp.gn rfl (by assumption) (by assumption) ?_
      | refine Wp.gl rfl (by assumption) ?_
      | refine Wp.addn rfl (by with_reducible rfl) (by with_reducible rfl) ?_
      | refine Wp.muln rfl (by with_reducible rfl) (by with_reducible rfl) ?_
      | refine Wp.subn rfl (by with_reducible rfl) (by with_reducible rfl) (by omega) ?_
      | (refine Wp.decn rfl rfl ?_; dsimp only [List.set])
      | (refine Wp.incn rfl rfl ?_; dsimp only [List.set])
      | (refine Wp.go rfl rfl ?_; try dsimp only [List.set])
      | refine Wp.pi rfl (by assumption) ?_
      | refine Wp.pr rfl (by assumption) ?_
      | refine Wp.pn rfl (by assumption) ?_
      | refine Wp.pl rfl (by assumption) ?_
      | refine Wp.aik rfl (by assumption) rfl (by first | with_reducible rfl | with_reducible assumption) (by omega) (by with_reducible assumption) ?_
      | refine Wp.aiN rfl (by assumption) rfl (by first | with_reducible rfl | with_reducible assumption) (by omega) ?_
      | refine Wp.siN rfl (by assumption) rfl (by first | with_reducible rfl | with_reducible assumption) (by omega) ?_
      | refine Wp.rt rfl rfl rfl rfl ?_
      | refine Wp.rz rfl rfl (by decide) ?_))
    iterate 1 (first
      | (with_reducible refine Wp.lt (by omega) (by omega) (fun _ => ?_) (fun _ => ?_) <;> try (exfalso; omega))
      | (with_reducible refine Wp.le (by omega) (by omega) (fun _ => ?_) (fun _ => ?_) <;> try (exfalso; omega))
      | (with_reducible refine Wp.eq (by omega) (by omega) (fun _ => ?_) (fun _ => ?_) <;> try (exfalso; omega))
      | (with_reducible refine Wp.ne (by omega) (by omega) (fun _ => ?_) (fun _ => ?_) <;> try (exfalso; omega))
      | with_reducible refine Wp.lt0 (by omega) ?_
      | with_reducible refine Wp.ge0 (by omega) ?_
      | (with_reducible refine Wp.bz (fun _ => ?_) (fun _ => ?_) <;> try contradiction)
      | (with_reducible refine Wp.bn (fun _ => ?_) (fun _ => ?_) <;> try contradiction)
      | (with_reducible refine Wp.br (fun _ => ?_) (fun _ => ?_) <;> try contradiction)
      | refine Wp.gik rfl (by assumption) (by with_reducible assumption) ?_
      | refine Wp.gi rfl (by assumption) ?_
      | refine Wp.gz rfl (by assumption) ?_
      | refine Wp.gr rfl (by assumption) (by assumption) ?_
      | refine Wp.gn rfl (by assumption) (by assumption) ?_
      | refine Wp.gl rfl (by assumption) ?_
      | refine Wp.addn rfl (by with_reducible rfl) (by with_reducible rfl) ?_
      | refine Wp.muln rfl (by with_reducible rfl) (by with_reducible rfl) ?_
      | refine Wp.subn rfl (by with_reducible rfl) (by with_reducible rfl) (by omega) ?_
      | (refine Wp.decn rfl rfl ?_; dsimp only [List.set])
      | (refine Wp.incn rfl rfl ?_; dsimp only [List.set])
      | (refine Wp.go rfl rfl ?_; try dsimp only [List.set])
      | refine Wp.pi rfl (by assumption) ?_
      | refine Wp.pr rfl (by assumption) ?_
      | refine Wp.pn rfl (by assumption) ?_
      | refine Wp.pl rfl (by assumption) ?_
      | refine Wp.aik rfl (by assumption) rfl (by first | with_reducible rfl | with_reducible assumption) (by omega) (by with_reducible assumption) ?_
      | refine Wp.aiN rfl (by assumption) rfl (by first | with_reducible rfl | with_reducible assumption) (by omega) ?_
      | refine Wp.siN rfl (by assumption) rfl (by first | with_reducible rfl | with_reducible assumption) (by omega) ?_
      | refine Wp.rt rfl rfl rfl rfl ?_
      | refine Wp.rz rfl rfl (by decide) ?_)
    refine Wp.br (fun hz => ?_) (fun _ => ?_)
    · exact absurd ((nI_eq (a := q) (b := 0) (by omega) (by omega)).mp hz) h0
    repeat' ((with_reducible fail_if_success show Wp _ _ 25 _ _ _ _); (first
      | (with_reducible refine Wp.lt (by omega) (by omega) (fun _ => ?_) (fun _ => ?_) <;> try (exfalso; omega))
      | (with_reducible refine Wp.le (by omega) (by omega) (fun _ => ?_) (fun _ => ?_) <;> try (exfalso; omega))
      | (with_reducible refine Wp.eq (by omega) (by omega) (fun _ => ?_) (fun _ => ?_) <;> try (exfalso; omega))
      | (with_reducible refine Wp.ne (by omega) (by omega) (fun _ => ?_) (fun _ => ?_) <;> try (exfalso; omega))
      | with_reducible refine Wp.lt0 (by omega) ?_
      | with_reducible refine Wp.ge0 (by omega) ?_
      | (with_reducible refine Wp.bz (fun _ => ?_) (fun _ => ?_) <;> try contradiction)
      | (with_reducible refine Wp.bn (fun _ => ?_) (fun _ => ?_) <;> try contradiction)
      | (with_reducible refine Wp.br (fun _ => ?_) (fun _ => ?_) <;> try contradiction)
      | refine Wp.gik rfl (by assumption) (by with_reducible assumption) ?_
      | refine Wp.gi rfl (by assumption) ?_
      | refine Wp.gz rfl (by assumption) ?_
      | refine Wp.gr rfl (by assumption) (by assumption) ?_
      | refine Wp.gn rfl (by assumption) (by assumption) ?_
      | refine Wp.gl rfl (by assumption) ?_
      | refine Wp.addn rfl (by with_reducible rfl) (by with_reducible rfl) ?_
      | refine Wp.muln rfl (by with_reducible rfl) (by with_reducible rfl) ?_
      | refine Wp.subn rfl (by with_reducible rfl) (by with_reducible rfl) (by omega) ?_
      | (refine Wp.decn rfl rfl ?_; dsimp only [List.set])
      | (refine Wp.incn rfl rfl ?_; dsimp only [List.set])
      | (refine Wp.go rfl rfl ?_; try dsimp only [List.set])
      | refine Wp.pi rfl (by assumption) ?_
      | refine Wp.pr rfl (by assumption) ?_
      | refine Wp.pn rfl (by assumption) ?_
      | refine Wp.pl rfl (by assumption) ?_
      | refine Wp.aik rfl (by assumption) rfl (by first | with_reducible rfl | with_reducible assumption) (by omega) (by with_reducible assumption) ?_
      | refine Wp.aiN rfl (by assumption) rfl (by first | with_reducible rfl | with_reducible assumption) (by omega) ?_
      | refine Wp.siN rfl (by assumption) rfl (by first | with_reducible rfl | with_reducible assumption) (by omega) ?_
      | refine Wp.rt rfl rfl rfl rfl ?_
      | refine Wp.rz rfl rfl (by decide) ?_))
    refine Wp.V0i rfl p1' rfl (w_camps (d + 2) hm.1 hr) ?_
    iterate 2 (first
      | (with_reducible refine Wp.lt (by omega) (by omega) (fun _ => ?_) (fun _ => ?_) <;> try (exfalso; omega))
      | (with_reducible refine Wp.le (by omega) (by omega) (fun _ => ?_) (fun _ => ?_) <;> try (exfalso; omega))
      | (with_reducible refine Wp.eq (by omega) (by omega) (fun _ => ?_) (fun _ => ?_) <;> try (exfalso; omega))
      | (with_reducible refine Wp.ne (by omega) (by omega) (fun _ => ?_) (fun _ => ?_) <;> try (exfalso; omega))
      | with_reducible refine Wp.lt0 (by omega) ?_
      | with_reducible refine Wp.ge0 (by omega) ?_
      | (with_reducible refine Wp.bz (fun _ => ?_) (fun _ => ?_) <;> try contradiction)
      | (with_reducible refine Wp.bn (fun _ => ?_) (fun _ => ?_) <;> try contradiction)
      | (with_reducible refine Wp.br (fun _ => ?_) (fun _ => ?_) <;> try contradiction)
      | refine Wp.gik rfl (by assumption) (by with_reducible assumption) ?_
      | refine Wp.gi rfl (by assumption) ?_
      | refine Wp.gz rfl (by assumption) ?_
      | refine Wp.gr rfl (by assumption) (by assumption) ?_
      | refine Wp.gn rfl (by assumption) (by assumption) ?_
      | refine Wp.gl rfl (by assumption) ?_
      | refine Wp.addn rfl (by with_reducible rfl) (by with_reducible rfl) ?_
      | refine Wp.muln rfl (by with_reducible rfl) (by with_reducible rfl) ?_
      | refine Wp.subn rfl (by with_reducible rfl) (by with_reducible rfl) (by omega) ?_
      | (refine Wp.decn rfl rfl ?_; dsimp only [List.set])
      | (refine Wp.incn rfl rfl ?_; dsimp only [List.set])
      | (refine Wp.go rfl rfl ?_; try dsimp only [List.set])
      | refine Wp.pi rfl (by assumption) ?_
      | refine Wp.pr rfl (by assumption) ?_
      | refine Wp.pn rfl (by assumption) ?_
      | refine Wp.pl rfl (by assumption) ?_
      | refine Wp.aik rfl (by assumption) rfl (by first | with_reducible rfl | with_reducible assumption) (by omega) (by with_reducible assumption) ?_
      | refine Wp.aiN rfl (by assumption) rfl (by first | with_reducible rfl | with_reducible assumption) (by omega) ?_
      | refine Wp.siN rfl (by assumption) rfl (by first | with_reducible rfl | with_reducible assumption) (by omega) ?_
      | refine Wp.rt rfl rfl rfl rfl ?_
      | refine Wp.rz rfl rfl (by decide) ?_)
    · rename_i hc
      repeat' (first
      | (with_reducible refine Wp.lt (by omega) (by omega) (fun _ => ?_) (fun _ => ?_) <;> try (exfalso; omega))
      | (with_reducible refine Wp.le (by omega) (by omega) (fun _ => ?_) (fun _ => ?_) <;> try (exfalso; omega))
      | (with_reducible refine Wp.eq (by omega) (by omega) (fun _ => ?_) (fun _ => ?_) <;> try (exfalso; omega))
      | (with_reducible refine Wp.ne (by omega) (by omega) (fun _ => ?_) (fun _ => ?_) <;> try (exfalso; omega))
      | with_reducible refine Wp.lt0 (by omega) ?_
      | with_reducible refine Wp.ge0 (by omega) ?_
      | (with_reducible refine Wp.bz (fun _ => ?_) (fun _ => ?_) <;> try contradiction)
      | (with_reducible refine Wp.bn (fun _ => ?_) (fun _ => ?_) <;> try contradiction)
      | (with_reducible refine Wp.br (fun _ => ?_) (fun _ => ?_) <;> try contradiction)
      | refine Wp.gik rfl (by assumption) (by with_reducible assumption) ?_
      | refine Wp.gi rfl (by assumption) ?_
      | refine Wp.gz rfl (by assumption) ?_
      | refine Wp.gr rfl (by assumption) (by assumption) ?_
      | refine Wp.gn rfl (by assumption) (by assumption) ?_
      | refine Wp.gl rfl (by assumption) ?_
      | refine Wp.addn rfl (by with_reducible rfl) (by with_reducible rfl) ?_
      | refine Wp.muln rfl (by with_reducible rfl) (by with_reducible rfl) ?_
      | refine Wp.subn rfl (by with_reducible rfl) (by with_reducible rfl) (by omega) ?_
      | (refine Wp.decn rfl rfl ?_; dsimp only [List.set])
      | (refine Wp.incn rfl rfl ?_; dsimp only [List.set])
      | (refine Wp.go rfl rfl ?_; try dsimp only [List.set])
      | refine Wp.pi rfl (by assumption) ?_
      | refine Wp.pr rfl (by assumption) ?_
      | refine Wp.pn rfl (by assumption) ?_
      | refine Wp.pl rfl (by assumption) ?_
      | refine Wp.aik rfl (by assumption) rfl (by first | with_reducible rfl | with_reducible assumption) (by omega) (by with_reducible assumption) ?_
      | refine Wp.aiN rfl (by assumption) rfl (by first | with_reducible rfl | with_reducible assumption) (by omega) ?_
      | refine Wp.siN rfl (by assumption) rfl (by first | with_reducible rfl | with_reducible assumption) (by omega) ?_
      | refine Wp.rt rfl rfl rfl rfl ?_
      | refine Wp.rz rfl rfl (by decide) ?_)
      rw [c_exe, if_neg (by rw [hc]; simp), eS]
      exact ⟨hm.1, hg.2.trans hm.2, rfl⟩
    · rename_i hc
      have ha := a3.ext hm.2
      have ha1 : M'.1[a]? = some (false, 7, 7) := a3.2.1.1
      repeat' ((with_reducible fail_if_success show Wp _ _ 41 _ _ _ _); (first
      | (with_reducible refine Wp.lt (by omega) (by omega) (fun _ => ?_) (fun _ => ?_) <;> try (exfalso; omega))
      | (with_reducible refine Wp.le (by omega) (by omega) (fun _ => ?_) (fun _ => ?_) <;> try (exfalso; omega))
      | (with_reducible refine Wp.eq (by omega) (by omega) (fun _ => ?_) (fun _ => ?_) <;> try (exfalso; omega))
      | (with_reducible refine Wp.ne (by omega) (by omega) (fun _ => ?_) (fun _ => ?_) <;> try (exfalso; omega))
      | with_reducible refine Wp.lt0 (by omega) ?_
      | with_reducible refine Wp.ge0 (by omega) ?_
      | (with_reducible refine Wp.bz (fun _ => ?_) (fun _ => ?_) <;> try contradiction)
      | (with_reducible refine Wp.bn (fun _ => ?_) (fun _ => ?_) <;> try contradiction)
      | (with_reducible refine Wp.br (fun _ => ?_) (fun _ => ?_) <;> try contradiction)
      | refine Wp.gik rfl (by assumption) (by with_reducible assumption) ?_
      | refine Wp.gi rfl (by assumption) ?_
      | refine Wp.gz rfl (by assumption) ?_
      | refine Wp.gr rfl (by assumption) (by assumption) ?_
      | refine Wp.gn rfl (by assumption) (by assumption) ?_
      | refine Wp.gl rfl (by assumption) ?_
      | refine Wp.addn rfl (by with_reducible rfl) (by with_reducible rfl) ?_
      | refine Wp.muln rfl (by with_reducible rfl) (by with_reducible rfl) ?_
      | refine Wp.subn rfl (by with_reducible rfl) (by with_reducible rfl) (by omega) ?_
      | (refine Wp.decn rfl rfl ?_; dsimp only [List.set])
      | (refine Wp.incn rfl rfl ?_; dsimp only [List.set])
      | (refine Wp.go rfl rfl ?_; try dsimp only [List.set])
      | refine Wp.pi rfl (by assumption) ?_
      | refine Wp.pr rfl (by assumption) ?_
      | refine Wp.pn rfl (by assumption) ?_
      | refine Wp.pl rfl (by assumption) ?_
      | refine Wp.aik rfl (by assumption) rfl (by first | with_reducible rfl | with_reducible assumption) (by omega) (by with_reducible assumption) ?_
      | refine Wp.aiN rfl (by assumption) rfl (by first | with_reducible rfl | with_reducible assumption) (by omega) ?_
      | refine Wp.siN rfl (by assumption) rfl (by first | with_reducible rfl | with_reducible assumption) (by omega) ?_
      | refine Wp.rt rfl rfl rfl rfl ?_
      | refine Wp.rz rfl rfl (by decide) ?_))
      refine Wp.V1i rfl ha1 rfl (w_ans (d + 1) ha (by omega)) ?_
      obtain ⟨m1, m2, qb, m3, m4⟩ := hm.1.n
      have hcn : c_n (C.1, x_p C.2.1 r (s_aft (C.2.1 r) q (C.2.2.2.1 q)), C.2.2) = c_n C := rfl
      rw [hcn] at m1 m2 m3
      obtain ⟨l1, l2, l3, l4, l5⟩ := m3 q (by omega) hq
      have hcl' := hm.1.2.2.1.2.2.1
      have hn' : M'.2.1 1 1 = nI (c_n C) := (hm.1.1 1 1 (by omega)).trans m1
      refine Wp.V2v rfl c1' rfl (ER.ev (M := (M'.1, M'.2.1, M'.2.2.1, x_u M'.2.2.2 (9 + 13 * r) 7 (some a))) (k_hear (d + 1) M'.2.1 (Z := (M'.1, M'.2.2.1, x_u M'.2.2.2 (9 + 13 * r) 7 (some a))) (s_an (s_aft (C.2.1 r) q (C.2.2.2.1 q)) q) hcl' hn' m2 (by omega) hq l1 l2)) ?_
      have hh := hm.1.hear (q := q) (s_an (s_aft (C.2.1 r) q (C.2.2.2.1 q)) q) (by omega) hq l1
      repeat' (first
      | (with_reducible refine Wp.lt (by omega) (by omega) (fun _ => ?_) (fun _ => ?_) <;> try (exfalso; omega))
      | (with_reducible refine Wp.le (by omega) (by omega) (fun _ => ?_) (fun _ => ?_) <;> try (exfalso; omega))
      | (with_reducible refine Wp.eq (by omega) (by omega) (fun _ => ?_) (fun _ => ?_) <;> try (exfalso; omega))
      | (with_reducible refine Wp.ne (by omega) (by omega) (fun _ => ?_) (fun _ => ?_) <;> try (exfalso; omega))
      | with_reducible refine Wp.lt0 (by omega) ?_
      | with_reducible refine Wp.ge0 (by omega) ?_
      | (with_reducible refine Wp.bz (fun _ => ?_) (fun _ => ?_) <;> try contradiction)
      | (with_reducible refine Wp.bn (fun _ => ?_) (fun _ => ?_) <;> try contradiction)
      | (with_reducible refine Wp.br (fun _ => ?_) (fun _ => ?_) <;> try contradiction)
      | refine Wp.gik rfl (by assumption) (by with_reducible assumption) ?_
      | refine Wp.gi rfl (by assumption) ?_
      | refine Wp.gz rfl (by assumption) ?_
      | refine Wp.gr rfl (by assumption) (by assumption) ?_
      | refine Wp.gn rfl (by assumption) (by assumption) ?_
      | refine Wp.gl rfl (by assumption) ?_
      | refine Wp.addn rfl (by with_reducible rfl) (by with_reducible rfl) ?_
      | refine Wp.muln rfl (by with_reducible rfl) (by with_reducible rfl) ?_
      | refine Wp.subn rfl (by with_reducible rfl) (by with_reducible rfl) (by omega) ?_
      | (refine Wp.decn rfl rfl ?_; dsimp only [List.set])
      | (refine Wp.incn rfl rfl ?_; dsimp only [List.set])
      | (refine Wp.go rfl rfl ?_; try dsimp only [List.set])
      | refine Wp.pi rfl (by assumption) ?_
      | refine Wp.pr rfl (by assumption) ?_
      | refine Wp.pn rfl (by assumption) ?_
      | refine Wp.pl rfl (by assumption) ?_
      | refine Wp.aik rfl (by assumption) rfl (by first | with_reducible rfl | with_reducible assumption) (by omega) (by with_reducible assumption) ?_
      | refine Wp.aiN rfl (by assumption) rfl (by first | with_reducible rfl | with_reducible assumption) (by omega) ?_
      | refine Wp.siN rfl (by assumption) rfl (by first | with_reducible rfl | with_reducible assumption) (by omega) ?_
      | refine Wp.rt rfl rfl rfl rfl ?_
      | refine Wp.rz rfl rfl (by decide) ?_)
      rw [c_exe, if_pos (by rw [hc]; simp [h0]), eS]
      exact ⟨hh.1, hg.2.trans (hm.2.trans hh.2), rfl⟩
end REPL2
