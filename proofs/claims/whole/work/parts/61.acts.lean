/-! the class: act, after; new votes -/
theorem x_sh {I F : Nat → Nat → Int32} {p : Nat} (h : ∀ o i, o ≤ 2 → i < 64 → I (p + o) i = F o i) (o' j : Nat) (v : Int32) : ∀ o i, o ≤ 2 → i < 64 → x_u I (p + o') j v (p + o) i = x_u F o' j v o i := by
  intro o i ho hi
  simp only [x_u]
  by_cases e : o = o' ∧ i = j
  · rw [if_pos e, if_pos (by omega)]
  · rw [if_neg e, if_neg (by omega)]
    exact h o i ho hi
theorem Ext.lt {b : Nat} {M M' : xM} (hk : M.1 <+: M'.1) (hb1 : M'.1.length ≤ M.1.length + b) (hb2 : x_sz M' ≤ x_sz M + 41 * b) (hs : ∀ a i, a < M.1.length → M'.2.1 a i = M.2.1 a i ∧ M'.2.2.1 a i = M.2.2.1 a i ∧ M'.2.2.2 a i = M.2.2.2 a i) : Ext b M M' := ⟨⟨hk, fun a ha _ _ i => hs a i ha⟩, hb1, hb2⟩
theorem x_new_s (M : xM) (k : xK) : ∀ a i, a < M.1.length → (x_new M k).2.1 a i = M.2.1 a i ∧ (x_new M k).2.2.1 a i = M.2.2.1 a i ∧ (x_new M k).2.2.2 a i = M.2.2.2 a i := fun a i h => ⟨x_w_o _ _ _ (by omega), x_w_o _ _ _ (by omega), x_w_o _ _ _ (by omega)⟩
theorem Ext.new (M : xM) (k : xK) (hk : k.2.2 ≤ 41) : Ext 1 M (x_new M k) := Ext.lt (List.prefix_append _ _) (by simp [x_new]) (by rw [x_new, x_sz_a]; omega) (x_new_s M k)
section ACTS
variable {M : xM} {C : xCC}
def a_post (M : xM) (p q : Nat) (S : xS) (g : Nat → Int32) (M' : xM) : Prop := M'.1 = M.1 ∧ (∀ b i, b < p ∨ p + 2 < b → M'.2.1 b i = M.2.1 b i ∧ M'.2.2.1 b i = M.2.2.1 b i ∧ M'.2.2.2 b i = M.2.2.2 b i) ∧ stA M' p (s_act S q g)
theorem a_fin {p q : Nat} {S : xS} {g : Nat → Int32} {I' : xI} (hs : stA M p S) (hg : rqO g) (hI : ∀ o i, o ≤ 2 → i < 64 → I' (p + o) i = (s_act S q g).1 o i) (hf : ∀ b i, b < p ∨ p + 2 < b → I' b i = M.2.1 b i) : a_post M p q S g (M.1, I', x_u M.2.2.1 p 3 (M.2.2.1 p 3 ||| (lN 1 <<< ((nI q).toInt64 &&& 63))), M.2.2.2) := by
  obtain ⟨s0, s1, s6, s7, s8⟩ := hs
  refine ⟨rfl, fun b i hb => ⟨hf b i hb, x_u_ne _ _ (by omega), rfl⟩, s0, s1, hI, ?_, (s_act_ok q s8 hg).1⟩
  show x_u M.2.2.1 p 3 (M.2.2.1 p 3 ||| (lN 1 <<< ((nI q).toInt64 &&& 63))) p 3 = _
  rw [x_u_eq, s7]
  rfl
set_option maxHeartbeats 4000000 in
theorem k_act (d : Nat) {p a q : Nat} {S : xS} {g : Nat → Int32} (hs : stA M p S) (ha : M.1[a]? = some (false, 6, 5)) (hv : ∀ i, M.2.1 a i = g i) (hg : rqO g) (hq : q ≤ 40) : Ev (d + 1) 61 M [.ref p, .int (nI q), .ref a] (fun M' v => v = none ∧ a_post M p q S g M') := by
  have hs' := hs
  obtain ⟨s0, ⟨s1, s2, s3, s4, s5⟩, s6, s7, s8⟩ := hs'
  have s1' : M.1[p]? = some (false, 7, 7) := s1
  have s2' : M.2.2.2 p 1 = some (p + 1) := s2
  have s3' : M.2.2.2 p 2 = some (p + 2) := s3
  have s4' : M.1[p + 1]? = some (true, 0, 4) := s4
  have s5' : M.1[p + 2]? = some (true, 0, 41) := s5
  obtain ⟨⟨k, hk, ek⟩, ⟨ky, hky, eky⟩, _⟩ := id hg
  have f0 : M.2.1 a 0 = nI k := (hv 0).trans ek
  have f1 : M.2.1 a 1 = nI ky := (hv 1).trans eky
  have f2 : M.2.1 a 2 = g 2 := hv 2
  have f3 : M.2.1 (p + 1) ky = S.1 1 ky := s6 1 ky (by decide) (by omega)
  have f4 : M.2.1 p 4 = S.1 0 4 := s6 0 4 (by decide) (by decide)
  have hc : (g 1).toNatClampNeg = ky := by rw [eky]; exact nI_clamp (by omega)
  refine Ev.of (ls := [some (.ref p), some (.int (nI q)), some (.ref a), none]) rfl rfl ?_
  repeat' ((with_reducible fail_if_success show Wp _ _ 14 _ _ _ _); (first
      | (with_reducible refine Wp.lt (by omega) (by omega) (fun _ => ?_) (fun _ => ?_) <;> try (exfalso; omega))
      | (with_reducible refine Wp.le (by omega) (by omega) (fun _ => ?_) (fun _ => ?_) <;> try (exfalso; omega))
      | (with_reducible refine Wp.eq (by omega) (by omega) (fun _ => ?_) (fun _ => ?_) <;> try (exfalso; omega))
      | (with_reducible refine Wp.ne (by omega) (by omega) (fun _ => ?_) (fun _ => ?_) <;> try (exfalso; omega))
      | with_reducible refine Wp.lt0 (by omega) ?_
      | with_reducible refine Wp.ge0 (by omega) ?_
      | (with_reducible refine Wp.bz (fun _ => ?_) (fun _ => ?_) <;> try contradiction)
      | (with_reducible refine Wp.bn (fun _ => ?_) (fun _ => ?_) <;> try contradiction)
      | (with_reducible refine Wp.br (fun _ => ?_) (fun _ => ?_) <;> try contradiction)
      | refine Wp.gik rfl (by assumption) (by with_reducible assumption) ?_
      | refine Wp.gi rfl (by assumption) ?_
      | refine Wp.gz rfl (by assumption) ?_
      | refine Wp.gr rfl (by assumption) (by assumption) ?_
      | refine Wp.gn rfl (by assumption) (by assumption) ?_
      | refine Wp.gl rfl (by assumption) ?_
      | refine Wp.addn rfl (by with_reducible rfl) (by with_reducible rfl) ?_
      | refine Wp.muln rfl (by with_reducible rfl) (by with_reducible rfl) ?_
      | refine Wp.subn rfl (by with_reducible rfl) (by with_reducible rfl) (by omega) ?_
      | (refine Wp.decn rfl rfl ?_; dsimp only [List.set])
      | (refine Wp.incn rfl rfl ?_; dsimp only [List.set])
      | (refine Wp.go rfl rfl ?_; try dsimp only [List.set])
      | refine Wp.pi rfl (by assumption) ?_
      | refine Wp.pr rfl (by assumption) ?_
      | refine Wp.pn rfl (by assumption) ?_
      | refine Wp.pl rfl (by assumption) ?_
      | refine Wp.aik rfl (by assumption) rfl (by first | with_reducible rfl | with_reducible assumption) (by omega) (by with_reducible assumption) ?_
      | refine Wp.aiN rfl (by assumption) rfl (by first | with_reducible rfl | with_reducible assumption) (by omega) ?_
      | refine Wp.siN rfl (by assumption) rfl (by first | with_reducible rfl | with_reducible assumption) (by omega) ?_
      | refine Wp.rt rfl rfl rfl rfl ?_
      | refine Wp.rz rfl rfl (by decide) ?_))
  have hk5 : k = 0 ∨ k = 1 ∨ k = 2 ∨ k = 3 ∨ k = 4 := by omega
  rcases hk5 with rfl | rfl | rfl | rfl | rfl
  · refine Wp.ts rfl (by omega) rfl ?_
    show Wp d 61 116 _ _ _ _
    repeat' (first
      | (with_reducible refine Wp.lt (by omega) (by omega) (fun _ => ?_) (fun _ => ?_) <;> try (exfalso; omega))
      | (with_reducible refine Wp.le (by omega) (by omega) (fun _ => ?_) (fun _ => ?_) <;> try (exfalso; omega))
      | (with_reducible refine Wp.eq (by omega) (by omega) (fun _ => ?_) (fun _ => ?_) <;> try (exfalso; omega))
      | (with_reducible refine Wp.ne (by omega) (by omega) (fun _ => ?_) (fun _ => ?_) <;> try (exfalso; omega))
      | with_reducible refine Wp.lt0 (by omega) ?_
      | with_reducible refine Wp.ge0 (by omega) ?_
      | (with_reducible refine Wp.bz (fun _ => ?_) (fun _ => ?_) <;> try contradiction)
      | (with_reducible refine Wp.bn (fun _ => ?_) (fun _ => ?_) <;> try contradiction)
      | (with_reducible refine Wp.br (fun _ => ?_) (fun _ => ?_) <;> try contradiction)
      | refine Wp.gik rfl (by assumption) (by with_reducible assumption) ?_
      | refine Wp.gi rfl (by assumption) ?_
      | refine Wp.gz rfl (by assumption) ?_
      | refine Wp.gr rfl (by assumption) (by assumption) ?_
      | refine Wp.gn rfl (by assumption) (by assumption) ?_
      | refine Wp.gl rfl (by assumption) ?_
      | refine Wp.addn rfl (by with_reducible rfl) (by with_reducible rfl) ?_
      | refine Wp.muln rfl (by with_reducible rfl) (by with_reducible rfl) ?_
      | refine Wp.subn rfl (by with_reducible rfl) (by with_reducible rfl) (by omega) ?_
      | (refine Wp.decn rfl rfl ?_; dsimp only [List.set])
      | (refine Wp.incn rfl rfl ?_; dsimp only [List.set])
      | (refine Wp.go rfl rfl ?_; try dsimp only [List.set])
      | refine Wp.pi rfl (by assumption) ?_
      | refine Wp.pr rfl (by assumption) ?_
      | refine Wp.pn rfl (by assumption) ?_
      | refine Wp.pl rfl (by assumption) ?_
      | refine Wp.aik rfl (by assumption) rfl (by first | with_reducible rfl | with_reducible assumption) (by omega) (by with_reducible assumption) ?_
      | refine Wp.aiN rfl (by assumption) rfl (by first | with_reducible rfl | with_reducible assumption) (by omega) ?_
      | refine Wp.siN rfl (by assumption) rfl (by first | with_reducible rfl | with_reducible assumption) (by omega) ?_
      | refine Wp.rt rfl rfl rfl rfl ?_
      | refine Wp.rz rfl rfl (by decide) ?_)
    refine ⟨rfl, a_fin hs hg (fun o i ho hi => ?_) (fun b i hb => x_u_ne _ _ (by omega))⟩
    have e1 : s_upd S g = S.1 := by
      rw [s_upd, if_neg (by rw [ek]; exact fun h => by rcases h with h | h; exact absurd h (by decide); exact absurd h.1 (by decide)), if_neg (by rw [ek]; decide), if_neg (by rw [ek]; decide)]
    have e2 : s_ans S g = S.1 1 ky := by
      rw [s_ans, if_neg (by rw [ek]; decide), if_neg (by rw [ek]; decide), hc]
    show _ = x_u (s_upd S g) 2 q (s_ans S g) o i
    rw [e1, e2]
    exact x_sh s6 2 q _ o i ho hi
  · refine Wp.ts rfl (by omega) rfl ?_
    show Wp d 61 44 _ _ _ _
    repeat' (first
      | (with_reducible refine Wp.lt (by omega) (by omega) (fun _ => ?_) (fun _ => ?_) <;> try (exfalso; omega))
      | (with_reducible refine Wp.le (by omega) (by omega) (fun _ => ?_) (fun _ => ?_) <;> try (exfalso; omega))
      | (with_reducible refine Wp.eq (by omega) (by omega) (fun _ => ?_) (fun _ => ?_) <;> try (exfalso; omega))
      | (with_reducible refine Wp.ne (by omega) (by omega) (fun _ => ?_) (fun _ => ?_) <;> try (exfalso; omega))
      | with_reducible refine Wp.lt0 (by omega) ?_
      | with_reducible refine Wp.ge0 (by omega) ?_
      | (with_reducible refine Wp.bz (fun _ => ?_) (fun _ => ?_) <;> try contradiction)
      | (with_reducible refine Wp.bn (fun _ => ?_) (fun _ => ?_) <;> try contradiction)
      | (with_reducible refine Wp.br (fun _ => ?_) (fun _ => ?_) <;> try contradiction)
      | refine Wp.gik rfl (by assumption) (by with_reducible assumption) ?_
      | refine Wp.gi rfl (by assumption) ?_
      | refine Wp.gz rfl (by assumption) ?_
      | refine Wp.gr rfl (by assumption) (by assumption) ?_
      | refine Wp.gn rfl (by assumption) (by assumption) ?_
      | refine Wp.gl rfl (by assumption) ?_
      | refine Wp.addn rfl (by with_reducible rfl) (by with_reducible rfl) ?_
      | refine Wp.muln rfl (by with_reducible rfl) (by with_reducible rfl) ?_
      | refine Wp.subn rfl (by with_reducible rfl) (by with_reducible rfl) (by omega) ?_
      | (refine Wp.decn rfl rfl ?_; dsimp only [List.set])
      | (refine Wp.incn rfl rfl ?_; dsimp only [List.set])
      | (refine Wp.go rfl rfl ?_; try dsimp only [List.set])
      | refine Wp.pi rfl (by assumption) ?_
      | refine Wp.pr rfl (by assumption) ?_
      | refine Wp.pn rfl (by assumption) ?_
      | refine Wp.pl rfl (by assumption) ?_
      | refine Wp.aik rfl (by assumption) rfl (by first | with_reducible rfl | with_reducible assumption) (by omega) (by with_reducible assumption) ?_
      | refine Wp.aiN rfl (by assumption) rfl (by first | with_reducible rfl | with_reducible assumption) (by omega) ?_
      | refine Wp.siN rfl (by assumption) rfl (by first | with_reducible rfl | with_reducible assumption) (by omega) ?_
      | refine Wp.rt rfl rfl rfl rfl ?_
      | refine Wp.rz rfl rfl (by decide) ?_)
    refine ⟨rfl, a_fin hs hg (fun o i ho hi => ?_) (fun b i hb => ?_)⟩
    · have e1 : s_upd S g = x_u S.1 1 ky (g 2) := by
        rw [s_upd, if_pos (Or.inl ek), hc]
      have e2 : s_ans S g = S.1 1 ky := by
        rw [s_ans, if_neg (by rw [ek]; decide), if_neg (by rw [ek]; decide), hc]
      show _ = x_u (s_upd S g) 2 q (s_ans S g) o i
      rw [e1, e2]
      exact x_sh (x_sh s6 1 ky _) 2 q _ o i ho hi
    · exact (x_u_ne _ _ (by omega)).trans (x_u_ne _ _ (by omega))
  · refine Wp.ts rfl (by omega) rfl ?_
    show Wp d 61 60 _ _ _ _
    repeat' (first
      | (with_reducible refine Wp.lt (by omega) (by omega) (fun _ => ?_) (fun _ => ?_) <;> try (exfalso; omega))
      | (with_reducible refine Wp.le (by omega) (by omega) (fun _ => ?_) (fun _ => ?_) <;> try (exfalso; omega))
      | (with_reducible refine Wp.eq (by omega) (by omega) (fun _ => ?_) (fun _ => ?_) <;> try (exfalso; omega))
      | (with_reducible refine Wp.ne (by omega) (by omega) (fun _ => ?_) (fun _ => ?_) <;> try (exfalso; omega))
      | with_reducible refine Wp.lt0 (by omega) ?_
      | with_reducible refine Wp.ge0 (by omega) ?_
      | (with_reducible refine Wp.bz (fun _ => ?_) (fun _ => ?_) <;> try contradiction)
      | (with_reducible refine Wp.bn (fun _ => ?_) (fun _ => ?_) <;> try contradiction)
      | (with_reducible refine Wp.br (fun _ => ?_) (fun _ => ?_) <;> try contradiction)
      | refine Wp.gik rfl (by assumption) (by with_reducible assumption) ?_
      | refine Wp.gi rfl (by assumption) ?_
      | refine Wp.gz rfl (by assumption) ?_
      | refine Wp.gr rfl (by assumption) (by assumption) ?_
      | refine Wp.gn rfl (by assumption) (by assumption) ?_
      | refine Wp.gl rfl (by assumption) ?_
      | refine Wp.addn rfl (by with_reducible rfl) (by with_reducible rfl) ?_
      | refine Wp.muln rfl (by with_reducible rfl) (by with_reducible rfl) ?_
      | refine Wp.subn rfl (by with_reducible rfl) (by with_reducible rfl) (by omega) ?_
      | (refine Wp.decn rfl rfl ?_; dsimp only [List.set])
      | (refine Wp.incn rfl rfl ?_; dsimp only [List.set])
      | (refine Wp.go rfl rfl ?_; try dsimp only [List.set])
      | refine Wp.pi rfl (by assumption) ?_
      | refine Wp.pr rfl (by assumption) ?_
      | refine Wp.pn rfl (by assumption) ?_
      | refine Wp.pl rfl (by assumption) ?_
      | refine Wp.aik rfl (by assumption) rfl (by first | with_reducible rfl | with_reducible assumption) (by omega) (by with_reducible assumption) ?_
      | refine Wp.aiN rfl (by assumption) rfl (by first | with_reducible rfl | with_reducible assumption) (by omega) ?_
      | refine Wp.siN rfl (by assumption) rfl (by first | with_reducible rfl | with_reducible assumption) (by omega) ?_
      | refine Wp.rt rfl rfl rfl rfl ?_
      | refine Wp.rz rfl rfl (by decide) ?_)
    refine ⟨rfl, a_fin hs hg (fun o i ho hi => ?_) (fun b i hb => ?_)⟩
    · have e1 : s_upd S g = x_u S.1 1 ky (S.1 1 ky + g 2) := by
        rw [s_upd, if_neg (by rw [ek]; exact fun h => by rcases h with h | h; exact absurd h (by decide); exact absurd h.1 (by decide)), if_pos ek, hc]
      have e2 : s_ans S g = S.1 1 ky + g 2 := by
        rw [s_ans, if_pos ek, hc]
      show _ = x_u (s_upd S g) 2 q (s_ans S g) o i
      rw [e1, e2]
      exact x_sh (x_sh s6 1 ky _) 2 q _ o i ho hi
    · exact (x_u_ne _ _ (by omega)).trans (x_u_ne _ _ (by omega))
  · refine Wp.ts rfl (by omega) rfl ?_
    show Wp d 61 80 _ _ _ _
    repeat' (first
      | (with_reducible refine Wp.lt (by omega) (by omega) (fun _ => ?_) (fun _ => ?_) <;> try (exfalso; omega))
      | (with_reducible refine Wp.le (by omega) (by omega) (fun _ => ?_) (fun _ => ?_) <;> try (exfalso; omega))
      | (with_reducible refine Wp.eq (by omega) (by omega) (fun _ => ?_) (fun _ => ?_) <;> try (exfalso; omega))
      | (with_reducible refine Wp.ne (by omega) (by omega) (fun _ => ?_) (fun _ => ?_) <;> try (exfalso; omega))
      | with_reducible refine Wp.lt0 (by omega) ?_
      | with_reducible refine Wp.ge0 (by omega) ?_
      | (with_reducible refine Wp.bz (fun _ => ?_) (fun _ => ?_) <;> try contradiction)
      | (with_reducible refine Wp.bn (fun _ => ?_) (fun _ => ?_) <;> try contradiction)
      | (with_reducible refine Wp.br (fun _ => ?_) (fun _ => ?_) <;> try contradiction)
      | refine Wp.gik rfl (by assumption) (by with_reducible assumption) ?_
      | refine Wp.gi rfl (by assumption) ?_
      | refine Wp.gz rfl (by assumption) ?_
      | refine Wp.gr rfl (by assumption) (by assumption) ?_
      | refine Wp.gn rfl (by assumption) (by assumption) ?_
      | refine Wp.gl rfl (by assumption) ?_
      | refine Wp.addn rfl (by with_reducible rfl) (by with_reducible rfl) ?_
      | refine Wp.muln rfl (by with_reducible rfl) (by with_reducible rfl) ?_
      | refine Wp.subn rfl (by with_reducible rfl) (by with_reducible rfl) (by omega) ?_
      | (refine Wp.decn rfl rfl ?_; dsimp only [List.set])
      | (refine Wp.incn rfl rfl ?_; dsimp only [List.set])
      | (refine Wp.go rfl rfl ?_; try dsimp only [List.set])
      | refine Wp.pi rfl (by assumption) ?_
      | refine Wp.pr rfl (by assumption) ?_
      | refine Wp.pn rfl (by assumption) ?_
      | refine Wp.pl rfl (by assumption) ?_
      | refine Wp.aik rfl (by assumption) rfl (by first | with_reducible rfl | with_reducible assumption) (by omega) (by with_reducible assumption) ?_
      | refine Wp.aiN rfl (by assumption) rfl (by first | with_reducible rfl | with_reducible assumption) (by omega) ?_
      | refine Wp.siN rfl (by assumption) rfl (by first | with_reducible rfl | with_reducible assumption) (by omega) ?_
      | refine Wp.rt rfl rfl rfl rfl ?_
      | refine Wp.rz rfl rfl (by decide) ?_)
    · rename_i h
      refine ⟨rfl, a_fin hs hg (fun o i ho hi => ?_) (fun b i hb => x_u_ne _ _ (by omega))⟩
      have e1 : s_upd S g = S.1 := by
        rw [s_upd, if_neg (by rw [ek, hc]; exact fun h' => by rcases h' with h' | h'; exact absurd h' (by decide); exact h h'.2), if_neg (by rw [ek]; decide), if_neg (by rw [ek]; decide)]
      have e2 : s_ans S g = S.1 1 ky := by
        rw [s_ans, if_neg (by rw [ek]; decide), if_neg (by rw [ek]; decide), hc]
      show _ = x_u (s_upd S g) 2 q (s_ans S g) o i
      rw [e1, e2]
      exact x_sh s6 2 q _ o i ho hi
    · rename_i h
      refine ⟨rfl, a_fin hs hg (fun o i ho hi => ?_) (fun b i hb => ?_)⟩
      · have e1 : s_upd S g = x_u S.1 1 ky (g 2) := by
          rw [s_upd, if_pos (Or.inr ⟨ek, by rw [hc]; exact Classical.not_not.mp h⟩), hc]
        have e2 : s_ans S g = S.1 1 ky := by
          rw [s_ans, if_neg (by rw [ek]; decide), if_neg (by rw [ek]; decide), hc]
        show _ = x_u (s_upd S g) 2 q (s_ans S g) o i
        rw [e1, e2]
        exact x_sh (x_sh s6 1 ky _) 2 q _ o i ho hi
      · exact (x_u_ne _ _ (by omega)).trans (x_u_ne _ _ (by omega))
  · refine Wp.ts rfl (by omega) rfl ?_
    show Wp d 61 100 _ _ _ _
    repeat' (first
      | (with_reducible refine Wp.lt (by omega) (by omega) (fun _ => ?_) (fun _ => ?_) <;> try (exfalso; omega))
      | (with_reducible refine Wp.le (by omega) (by omega) (fun _ => ?_) (fun _ => ?_) <;> try (exfalso; omega))
      | (with_reducible refine Wp.eq (by omega) (by omega) (fun _ => ?_) (fun _ => ?_) <;> try (exfalso; omega))
      | (with_reducible refine Wp.ne (by omega) (by omega) (fun _ => ?_) (fun _ => ?_) <;> try (exfalso; omega))
      | with_reducible refine Wp.lt0 (by omega) ?_
      | with_reducible refine Wp.ge0 (by omega) ?_
      | (with_reducible refine Wp.bz (fun _ => ?_) (fun _ => ?_) <;> try contradiction)
      | (with_reducible refine Wp.bn (fun _ => ?_) (fun _ => ?_) <;> try contradiction)
      | (with_reducible refine Wp.br (fun _ => ?_) (fun _ => ?_) <;> try contradiction)
      | refine Wp.gik rfl (by assumption) (by with_reducible assumption) ?_
      | refine Wp.gi rfl (by assumption) ?_
      | refine Wp.gz rfl (by assumption) ?_
      | refine Wp.gr rfl (by assumption) (by assumption) ?_
      | refine Wp.gn rfl (by assumption) (by assumption) ?_
      | refine Wp.gl rfl (by assumption) ?_
      | refine Wp.addn rfl (by with_reducible rfl) (by with_reducible rfl) ?_
      | refine Wp.muln rfl (by with_reducible rfl) (by with_reducible rfl) ?_
      | refine Wp.subn rfl (by with_reducible rfl) (by with_reducible rfl) (by omega) ?_
      | (refine Wp.decn rfl rfl ?_; dsimp only [List.set])
      | (refine Wp.incn rfl rfl ?_; dsimp only [List.set])
      | (refine Wp.go rfl rfl ?_; try dsimp only [List.set])
      | refine Wp.pi rfl (by assumption) ?_
      | refine Wp.pr rfl (by assumption) ?_
      | refine Wp.pn rfl (by assumption) ?_
      | refine Wp.pl rfl (by assumption) ?_
      | refine Wp.aik rfl (by assumption) rfl (by first | with_reducible rfl | with_reducible assumption) (by omega) (by with_reducible assumption) ?_
      | refine Wp.aiN rfl (by assumption) rfl (by first | with_reducible rfl | with_reducible assumption) (by omega) ?_
      | refine Wp.siN rfl (by assumption) rfl (by first | with_reducible rfl | with_reducible assumption) (by omega) ?_
      | refine Wp.rt rfl rfl rfl rfl ?_
      | refine Wp.rz rfl rfl (by decide) ?_)
    refine ⟨rfl, a_fin hs hg (fun o i ho hi => ?_) (fun b i hb => ?_)⟩
    · have e1 : s_upd S g = x_u S.1 0 4 (g 2) := by
        rw [s_upd, if_neg (by rw [ek]; exact fun h => by rcases h with h | h; exact absurd h (by decide); exact absurd h.1 (by decide)), if_neg (by rw [ek]; decide), if_pos ek]
      have e2 : s_ans S g = S.1 0 4 := by
        rw [s_ans, if_neg (by rw [ek]; decide), if_pos ek]
      show _ = x_u (s_upd S g) 2 q (s_ans S g) o i
      rw [e1, e2]
      exact x_sh (x_sh s6 0 4 _) 2 q _ o i ho hi
    · exact (x_u_ne _ _ (by omega)).trans (x_u_ne _ _ (by omega))
/-- the state behind a command: none, or one with its request -/
def f_post (M : xM) (S : xS) (M' : xM) (v : Option Value) : Prop := ∃ a : Nat, v = some (.ref a) ∧ M.1 <+: M'.1 ∧ (∀ b i, b < M.1.length → M'.2.1 b i = M.2.1 b i ∧ M'.2.2.1 b i = M.2.2.1 b i ∧ M'.2.2.2 b i = M.2.2.2 b i) ∧ stA M' a S ∧ M'.1.length ≤ M.1.length + 3 ∧ x_sz M' ≤ x_sz M + 41 * 3
set_option maxHeartbeats 4000000 in
theorem k_after0 (d : Nat) {p q : Nat} {S : xS} {w : Value} {Q : xM → Option Value → Prop} (hw : x_en (x_nL 59) [Value.ref p, Value.int (nI q), w] = some [some (Value.ref p), some (Value.int (nI q)), some w, none]) (h8 : 108 ≤ M.1.length) (hs : stA M p S) (hf : sl S < 24) (hk : ∀ M', M.1 <+: M'.1 → (∀ b i, b < M.1.length → M'.2.1 b i = M.2.1 b i ∧ M'.2.2.1 b i = M.2.2.1 b i ∧ M'.2.2.2 b i = M.2.2.2 b i) → stA M' M.1.length (s_new S) → M'.1.length = M.1.length + 3 → x_sz M' = x_sz M + 52 → Wp (d + 2) 59 8 [some (.ref p), some (.int (nI q)), some w, none] [.ref M.1.length] M' Q) : Ev (d + 3) 59 M [.ref p, .int (nI q), w] Q := by
  refine Ev.of (ls := [some (.ref p), some (.int (nI q)), some w, none]) rfl hw ?_
  iterate 3 (refine Wp.go rfl rfl ?_)
  refine Wp.I1 rfl (Or.inl rfl) rfl (k_stnew d (M := x_new M (false, 7, 7)) (x_new_k M _) (by simp [x_new]) h8 (fun i => x_w_a _ _ _ _) (hs.ext (Ext.new M _ (by decide))) hf) (fun M' v hq => ?_)
  obtain ⟨rfl, g1, g2, g3, g4, g5⟩ := hq
  refine hk M' ((List.prefix_append _ _).trans g1) (fun b i hb => ?_) g3 (by rw [g4]; simp [x_new]) (by have e : x_sz (x_new M (false, 7, 7)) = x_sz M + 7 := x_sz_a M (false, 7, 7) _ _ _; omega)
  have h1 := g2 b i hb
  have h2 := x_new_s M (false, 7, 7) b i hb
  exact ⟨h1.1.trans h2.1, h1.2.1.trans h2.2.1, h1.2.2.trans h2.2.2⟩
set_option maxHeartbeats 4000000 in
theorem k_after_n (d : Nat) {p q : Nat} {S : xS} (h8 : 108 ≤ M.1.length) (hs : stA M p S) (hf : sl S < 24) : Ev (d + 3) 59 M [.ref p, .int (nI q), .null] (f_post M (s_new S)) := by
  refine k_after0 d rfl h8 hs hf (fun M' g1 g2 g3 g4 g5 => ?_)
  repeat' (first
      | (with_reducible refine Wp.lt (by omega) (by omega) (fun _ => ?_) (fun _ => ?_) <;> try (exfalso; omega))
      | (with_reducible refine Wp.le (by omega) (by omega) (fun _ => ?_) (fun _ => ?_) <;> try (exfalso; omega))
      | (with_reducible refine Wp.eq (by omega) (by omega) (fun _ => ?_) (fun _ => ?_) <;> try (exfalso; omega))
      | (with_reducible refine Wp.ne (by omega) (by omega) (fun _ => ?_) (fun _ => ?_) <;> try (exfalso; omega))
      | with_reducible refine Wp.lt0 (by omega) ?_
      | with_reducible refine Wp.ge0 (by omega) ?_
      | (with_reducible refine Wp.bz (fun _ => ?_) (fun _ => ?_) <;> try contradiction)
      | (with_reducible refine Wp.bn (fun _ => ?_) (fun _ => ?_) <;> try contradiction)
      | (with_reducible refine Wp.br (fun _ => ?_) (fun _ => ?_) <;> try contradiction)
      | refine Wp.gik rfl (by assumption) (by with_reducible assumption) ?_
      | refine Wp.gi rfl (by assumption) ?_
      | refine Wp.gz rfl (by assumption) ?_
      | refine Wp.gr rfl (by assumption) (by assumption) ?_
      | refine Wp.gn rfl (by assumption) (by assumption) ?_
      | refine Wp.gl rfl (by assumption) ?_
      | refine Wp.addn rfl (by with_reducible rfl) (by with_reducible rfl) ?_
      | refine Wp.muln rfl (by with_reducible rfl) (by with_reducible rfl) ?_
      | refine Wp.subn rfl (by with_reducible rfl) (by with_reducible rfl) (by omega) ?_
      | (refine Wp.decn rfl rfl ?_; dsimp only [List.set])
      | (refine Wp.incn rfl rfl ?_; dsimp only [List.set])
      | (refine Wp.go rfl rfl ?_; try dsimp only [List.set])
      | refine Wp.pi rfl (by assumption) ?_
      | refine Wp.pr rfl (by assumption) ?_
      | refine Wp.pn rfl (by assumption) ?_
      | refine Wp.pl rfl (by assumption) ?_
      | refine Wp.aik rfl (by assumption) rfl (by first | with_reducible rfl | with_reducible assumption) (by omega) (by with_reducible assumption) ?_
      | refine Wp.aiN rfl (by assumption) rfl (by first | with_reducible rfl | with_reducible assumption) (by omega) ?_
      | refine Wp.siN rfl (by assumption) rfl (by first | with_reducible rfl | with_reducible assumption) (by omega) ?_
      | refine Wp.rt rfl rfl rfl rfl ?_
      | refine Wp.rz rfl rfl (by decide) ?_)
  exact ⟨M.1.length, rfl, g1, g2, g3, by omega, by omega⟩
set_option maxHeartbeats 4000000 in
theorem k_after (d : Nat) {p q a : Nat} {S : xS} {g : Nat → Int32} (h8 : 108 ≤ M.1.length) (hs : stA M p S) (hf : sl S < 24) (ha : M.1[a]? = some (false, 6, 5)) (hv : ∀ i, M.2.1 a i = g i) (hg : rqO g) (hq : q ≤ 40) : Ev (d + 3) 59 M [.ref p, .int (nI q), .ref a] (f_post M (s_aft S q g)) := by
  refine k_after0 d rfl h8 hs hf (fun M' g1 g2 g3 g4 g5 => ?_)
  have hp : stA M' p S := hs.ext (Ext.lt (b := 3) g1 (by omega) (by omega) g2)
  have hp1 : M'.1[p]? = some (false, 7, 7) := hp.2.1.1
  repeat' (first
      | (with_reducible refine Wp.lt (by omega) (by omega) (fun _ => ?_) (fun _ => ?_) <;> try (exfalso; omega))
      | (with_reducible refine Wp.le (by omega) (by omega) (fun _ => ?_) (fun _ => ?_) <;> try (exfalso; omega))
      | (with_reducible refine Wp.eq (by omega) (by omega) (fun _ => ?_) (fun _ => ?_) <;> try (exfalso; omega))
      | (with_reducible refine Wp.ne (by omega) (by omega) (fun _ => ?_) (fun _ => ?_) <;> try (exfalso; omega))
      | with_reducible refine Wp.lt0 (by omega) ?_
      | with_reducible refine Wp.ge0 (by omega) ?_
      | (with_reducible refine Wp.bz (fun _ => ?_) (fun _ => ?_) <;> try contradiction)
      | (with_reducible refine Wp.bn (fun _ => ?_) (fun _ => ?_) <;> try contradiction)
      | (with_reducible refine Wp.br (fun _ => ?_) (fun _ => ?_) <;> try contradiction)
      | refine Wp.gik rfl (by assumption) (by with_reducible assumption) ?_
      | refine Wp.gi rfl (by assumption) ?_
      | refine Wp.gz rfl (by assumption) ?_
      | refine Wp.gr rfl (by assumption) (by assumption) ?_
      | refine Wp.gn rfl (by assumption) (by assumption) ?_
      | refine Wp.gl rfl (by assumption) ?_
      | refine Wp.addn rfl (by with_reducible rfl) (by with_reducible rfl) ?_
      | refine Wp.muln rfl (by with_reducible rfl) (by with_reducible rfl) ?_
      | refine Wp.subn rfl (by with_reducible rfl) (by with_reducible rfl) (by omega) ?_
      | (refine Wp.decn rfl rfl ?_; dsimp only [List.set])
      | (refine Wp.incn rfl rfl ?_; dsimp only [List.set])
      | (refine Wp.go rfl rfl ?_; try dsimp only [List.set])
      | refine Wp.pi rfl (by assumption) ?_
      | refine Wp.pr rfl (by assumption) ?_
      | refine Wp.pn rfl (by assumption) ?_
      | refine Wp.pl rfl (by assumption) ?_
      | refine Wp.aik rfl (by assumption) rfl (by first | with_reducible rfl | with_reducible assumption) (by omega) (by with_reducible assumption) ?_
      | refine Wp.aiN rfl (by assumption) rfl (by first | with_reducible rfl | with_reducible assumption) (by omega) ?_
      | refine Wp.siN rfl (by assumption) rfl (by first | with_reducible rfl | with_reducible assumption) (by omega) ?_
      | refine Wp.rt rfl rfl rfl rfl ?_
      | refine Wp.rz rfl rfl (by decide) ?_)
  refine Wp.V1i rfl hp1 rfl (k_done (d + 1) M'.2.1 (Z := zO M') (by omega) hp.2.1).ev0 ?_
  have e : c_dn ((zO M').2.1 p 3) q = c_dn S.2 q := by
    show c_dn (M'.2.2.1 p 3) q = _
    rw [hp.2.2.2.1]
  rw [e]
  iterate 2 (first
      | (with_reducible refine Wp.lt (by omega) (by omega) (fun _ => ?_) (fun _ => ?_) <;> try (exfalso; omega))
      | (with_reducible refine Wp.le (by omega) (by omega) (fun _ => ?_) (fun _ => ?_) <;> try (exfalso; omega))
      | (with_reducible refine Wp.eq (by omega) (by omega) (fun _ => ?_) (fun _ => ?_) <;> try (exfalso; omega))
      | (with_reducible refine Wp.ne (by omega) (by omega) (fun _ => ?_) (fun _ => ?_) <;> try (exfalso; omega))
      | with_reducible refine Wp.lt0 (by omega) ?_
      | with_reducible refine Wp.ge0 (by omega) ?_
      | (with_reducible refine Wp.bz (fun _ => ?_) (fun _ => ?_) <;> try contradiction)
      | (with_reducible refine Wp.bn (fun _ => ?_) (fun _ => ?_) <;> try contradiction)
      | (with_reducible refine Wp.br (fun _ => ?_) (fun _ => ?_) <;> try contradiction)
      | refine Wp.gik rfl (by assumption) (by with_reducible assumption) ?_
      | refine Wp.gi rfl (by assumption) ?_
      | refine Wp.gz rfl (by assumption) ?_
      | refine Wp.gr rfl (by assumption) (by assumption) ?_
      | refine Wp.gn rfl (by assumption) (by assumption) ?_
      | refine Wp.gl rfl (by assumption) ?_
      | refine Wp.addn rfl (by with_reducible rfl) (by with_reducible rfl) ?_
      | refine Wp.muln rfl (by with_reducible rfl) (by with_reducible rfl) ?_
      | refine Wp.subn rfl (by with_reducible rfl) (by with_reducible rfl) (by omega) ?_
      | (refine Wp.decn rfl rfl ?_; dsimp only [List.set])
      | (refine Wp.incn rfl rfl ?_; dsimp only [List.set])
      | (refine Wp.go rfl rfl ?_; try dsimp only [List.set])
      | refine Wp.pi rfl (by assumption) ?_
      | refine Wp.pr rfl (by assumption) ?_
      | refine Wp.pn rfl (by assumption) ?_
      | refine Wp.pl rfl (by assumption) ?_
      | refine Wp.aik rfl (by assumption) rfl (by first | with_reducible rfl | with_reducible assumption) (by omega) (by with_reducible assumption) ?_
      | refine Wp.aiN rfl (by assumption) rfl (by first | with_reducible rfl | with_reducible assumption) (by omega) ?_
      | refine Wp.siN rfl (by assumption) rfl (by first | with_reducible rfl | with_reducible assumption) (by omega) ?_
      | refine Wp.rt rfl rfl rfl rfl ?_
      | refine Wp.rz rfl rfl (by decide) ?_)
  · rename_i h
    repeat' (first
      | (with_reducible refine Wp.lt (by omega) (by omega) (fun _ => ?_) (fun _ => ?_) <;> try (exfalso; omega))
      | (with_reducible refine Wp.le (by omega) (by omega) (fun _ => ?_) (fun _ => ?_) <;> try (exfalso; omega))
      | (with_reducible refine Wp.eq (by omega) (by omega) (fun _ => ?_) (fun _ => ?_) <;> try (exfalso; omega))
      | (with_reducible refine Wp.ne (by omega) (by omega) (fun _ => ?_) (fun _ => ?_) <;> try (exfalso; omega))
      | with_reducible refine Wp.lt0 (by omega) ?_
      | with_reducible refine Wp.ge0 (by omega) ?_
      | (with_reducible refine Wp.bz (fun _ => ?_) (fun _ => ?_) <;> try contradiction)
      | (with_reducible refine Wp.bn (fun _ => ?_) (fun _ => ?_) <;> try contradiction)
      | (with_reducible refine Wp.br (fun _ => ?_) (fun _ => ?_) <;> try contradiction)
      | refine Wp.gik rfl (by assumption) (by with_reducible assumption) ?_
      | refine Wp.gi rfl (by assumption) ?_
      | refine Wp.gz rfl (by assumption) ?_
      | refine Wp.gr rfl (by assumption) (by assumption) ?_
      | refine Wp.gn rfl (by assumption) (by assumption) ?_
      | refine Wp.gl rfl (by assumption) ?_
      | refine Wp.addn rfl (by with_reducible rfl) (by with_reducible rfl) ?_
      | refine Wp.muln rfl (by with_reducible rfl) (by with_reducible rfl) ?_
      | refine Wp.subn rfl (by with_reducible rfl) (by with_reducible rfl) (by omega) ?_
      | (refine Wp.decn rfl rfl ?_; dsimp only [List.set])
      | (refine Wp.incn rfl rfl ?_; dsimp only [List.set])
      | (refine Wp.go rfl rfl ?_; try dsimp only [List.set])
      | refine Wp.pi rfl (by assumption) ?_
      | refine Wp.pr rfl (by assumption) ?_
      | refine Wp.pn rfl (by assumption) ?_
      | refine Wp.pl rfl (by assumption) ?_
      | refine Wp.aik rfl (by assumption) rfl (by first | with_reducible rfl | with_reducible assumption) (by omega) (by with_reducible assumption) ?_
      | refine Wp.aiN rfl (by assumption) rfl (by first | with_reducible rfl | with_reducible assumption) (by omega) ?_
      | refine Wp.siN rfl (by assumption) rfl (by first | with_reducible rfl | with_reducible assumption) (by omega) ?_
      | refine Wp.rt rfl rfl rfl rfl ?_
      | refine Wp.rz rfl rfl (by decide) ?_)
    refine ⟨M.1.length, rfl, g1, g2, ?_, by omega, by omega⟩
    rw [s_aft, if_pos h]
    exact g3
  · rename_i h
    iterate 3 (first
      | (with_reducible refine Wp.lt (by omega) (by omega) (fun _ => ?_) (fun _ => ?_) <;> try (exfalso; omega))
      | (with_reducible refine Wp.le (by omega) (by omega) (fun _ => ?_) (fun _ => ?_) <;> try (exfalso; omega))
      | (with_reducible refine Wp.eq (by omega) (by omega) (fun _ => ?_) (fun _ => ?_) <;> try (exfalso; omega))
      | (with_reducible refine Wp.ne (by omega) (by omega) (fun _ => ?_) (fun _ => ?_) <;> try (exfalso; omega))
      | with_reducible refine Wp.lt0 (by omega) ?_
      | with_reducible refine Wp.ge0 (by omega) ?_
      | (with_reducible refine Wp.bz (fun _ => ?_) (fun _ => ?_) <;> try contradiction)
      | (with_reducible refine Wp.bn (fun _ => ?_) (fun _ => ?_) <;> try contradiction)
      | (with_reducible refine Wp.br (fun _ => ?_) (fun _ => ?_) <;> try contradiction)
      | refine Wp.gik rfl (by assumption) (by with_reducible assumption) ?_
      | refine Wp.gi rfl (by assumption) ?_
      | refine Wp.gz rfl (by assumption) ?_
      | refine Wp.gr rfl (by assumption) (by assumption) ?_
      | refine Wp.gn rfl (by assumption) (by assumption) ?_
      | refine Wp.gl rfl (by assumption) ?_
      | refine Wp.addn rfl (by with_reducible rfl) (by with_reducible rfl) ?_
      | refine Wp.muln rfl (by with_reducible rfl) (by with_reducible rfl) ?_
      | refine Wp.subn rfl (by with_reducible rfl) (by with_reducible rfl) (by omega) ?_
      | (refine Wp.decn rfl rfl ?_; dsimp only [List.set])
      | (refine Wp.incn rfl rfl ?_; dsimp only [List.set])
      | (refine Wp.go rfl rfl ?_; try dsimp only [List.set])
      | refine Wp.pi rfl (by assumption) ?_
      | refine Wp.pr rfl (by assumption) ?_
      | refine Wp.pn rfl (by assumption) ?_
      | refine Wp.pl rfl (by assumption) ?_
      | refine Wp.aik rfl (by assumption) rfl (by first | with_reducible rfl | with_reducible assumption) (by omega) (by with_reducible assumption) ?_
      | refine Wp.aiN rfl (by assumption) rfl (by first | with_reducible rfl | with_reducible assumption) (by omega) ?_
      | refine Wp.siN rfl (by assumption) rfl (by first | with_reducible rfl | with_reducible assumption) (by omega) ?_
      | refine Wp.rt rfl rfl rfl rfl ?_
      | refine Wp.rz rfl rfl (by decide) ?_)
    refine Wp.V2 rfl g3.2.1.1 rfl (k_act (d + 1) (M := M') g3 (x_pre g1 ha) (fun i => ((g2 a i (x_lt ha)).1).trans (hv i)) hg hq) (fun M2 v hq2 => ?_)
    obtain ⟨rfl, k1, k2, k3⟩ := hq2
    show Wp (d + 2) 59 27 _ [] M2 _
    repeat' (first
      | (with_reducible refine Wp.lt (by omega) (by omega) (fun _ => ?_) (fun _ => ?_) <;> try (exfalso; omega))
      | (with_reducible refine Wp.le (by omega) (by omega) (fun _ => ?_) (fun _ => ?_) <;> try (exfalso; omega))
      | (with_reducible refine Wp.eq (by omega) (by omega) (fun _ => ?_) (fun _ => ?_) <;> try (exfalso; omega))
      | (with_reducible refine Wp.ne (by omega) (by omega) (fun _ => ?_) (fun _ => ?_) <;> try (exfalso; omega))
      | with_reducible refine Wp.lt0 (by omega) ?_
      | with_reducible refine Wp.ge0 (by omega) ?_
      | (with_reducible refine Wp.bz (fun _ => ?_) (fun _ => ?_) <;> try contradiction)
      | (with_reducible refine Wp.bn (fun _ => ?_) (fun _ => ?_) <;> try contradiction)
      | (with_reducible refine Wp.br (fun _ => ?_) (fun _ => ?_) <;> try contradiction)
      | refine Wp.gik rfl (by assumption) (by with_reducible assumption) ?_
      | refine Wp.gi rfl (by assumption) ?_
      | refine Wp.gz rfl (by assumption) ?_
      | refine Wp.gr rfl (by assumption) (by assumption) ?_
      | refine Wp.gn rfl (by assumption) (by assumption) ?_
      | refine Wp.gl rfl (by assumption) ?_
      | refine Wp.addn rfl (by with_reducible rfl) (by with_reducible rfl) ?_
      | refine Wp.muln rfl (by with_reducible rfl) (by with_reducible rfl) ?_
      | refine Wp.subn rfl (by with_reducible rfl) (by with_reducible rfl) (by omega) ?_
      | (refine Wp.decn rfl rfl ?_; dsimp only [List.set])
      | (refine Wp.incn rfl rfl ?_; dsimp only [List.set])
      | (refine Wp.go rfl rfl ?_; try dsimp only [List.set])
      | refine Wp.pi rfl (by assumption) ?_
      | refine Wp.pr rfl (by assumption) ?_
      | refine Wp.pn rfl (by assumption) ?_
      | refine Wp.pl rfl (by assumption) ?_
      | refine Wp.aik rfl (by assumption) rfl (by first | with_reducible rfl | with_reducible assumption) (by omega) (by with_reducible assumption) ?_
      | refine Wp.aiN rfl (by assumption) rfl (by first | with_reducible rfl | with_reducible assumption) (by omega) ?_
      | refine Wp.siN rfl (by assumption) rfl (by first | with_reducible rfl | with_reducible assumption) (by omega) ?_
      | refine Wp.rt rfl rfl rfl rfl ?_
      | refine Wp.rz rfl rfl (by decide) ?_)
    have ksz : x_sz M2 = x_sz M' := by rw [x_sz, x_sz, k1]
    refine ⟨M.1.length, rfl, by rw [k1]; exact g1, fun b i hb => ?_, ?_, by rw [k1]; omega, by omega⟩
    · have h1 := k2 b i (Or.inl hb)
      have h2 := g2 b i hb
      exact ⟨h1.1.trans h2.1, h1.2.1.trans h2.2.1, h1.2.2.trans h2.2.2⟩
    · rw [s_aft, if_neg (by rw [h]; decide)]
      exact k3
set_option maxHeartbeats 2000000 in
theorem k_vnew (d : Nat) {a : Nat} (hk : M.1[a]? = some (false, 8, 2)) (hl : M.1.length = a + 1) : Ev (d + 2) 63 M [.ref a] (fun M' v => v = none ∧ M.1 <+: M'.1 ∧ (∀ b i, b < a → M'.2.1 b i = M.2.1 b i ∧ M'.2.2.1 b i = M.2.2.1 b i ∧ M'.2.2.2 b i = M.2.2.2 b i) ∧ vtK (zO M') a ∧ (∀ i, M'.2.1 a i = M.2.1 a i) ∧ (∀ i, M'.2.1 (a + 1) i = 0 ∧ M'.2.1 (a + 2) i = 0) ∧ M'.1.length = M.1.length + 2 ∧ x_sz M' = x_sz M + 50) := by
  have p1 : (M.1 ++ [((true, 0, 25) : xK)])[a]? = some (false, 8, 2) := x_pre (List.prefix_append _ _) hk
  have p2 : (M.1 ++ [((true, 0, 25) : xK)] ++ [((true, 0, 25) : xK)])[a]? = some (false, 8, 2) := x_pre (List.prefix_append _ _) p1
  have hl2 : (M.1 ++ [((true, 0, 25) : xK)]).length = a + 2 := by simp [hl]
  refine Ev.of (ls := [some (.ref a)]) rfl rfl ?_
  repeat' ((with_reducible fail_if_success show Wp _ _ 7 _ _ _ _); (first
      | (with_reducible refine Wp.lt (by omega) (by omega) (fun _ => ?_) (fun _ => ?_) <;> try (exfalso; omega))
      | (with_reducible refine Wp.le (by omega) (by omega) (fun _ => ?_) (fun _ => ?_) <;> try (exfalso; omega))
      | (with_reducible refine Wp.eq (by omega) (by omega) (fun _ => ?_) (fun _ => ?_) <;> try (exfalso; omega))
      | (with_reducible refine Wp.ne (by omega) (by omega) (fun _ => ?_) (fun _ => ?_) <;> try (exfalso; omega))
      | with_reducible refine Wp.lt0 (by omega) ?_
      | with_reducible refine Wp.ge0 (by omega) ?_
      | (with_reducible refine Wp.bz (fun _ => ?_) (fun _ => ?_) <;> try contradiction)
      | (with_reducible refine Wp.bn (fun _ => ?_) (fun _ => ?_) <;> try contradiction)
      | (with_reducible refine Wp.br (fun _ => ?_) (fun _ => ?_) <;> try contradiction)
      | refine Wp.gik rfl (by assumption) (by with_reducible assumption) ?_
      | refine Wp.gi rfl (by assumption) ?_
      | refine Wp.gz rfl (by assumption) ?_
      | refine Wp.gr rfl (by assumption) (by assumption) ?_
      | refine Wp.gn rfl (by assumption) (by assumption) ?_
      | refine Wp.gl rfl (by assumption) ?_
      | refine Wp.addn rfl (by with_reducible rfl) (by with_reducible rfl) ?_
      | refine Wp.muln rfl (by with_reducible rfl) (by with_reducible rfl) ?_
      | refine Wp.subn rfl (by with_reducible rfl) (by with_reducible rfl) (by omega) ?_
      | (refine Wp.decn rfl rfl ?_; dsimp only [List.set])
      | (refine Wp.incn rfl rfl ?_; dsimp only [List.set])
      | (refine Wp.go rfl rfl ?_; try dsimp only [List.set])
      | refine Wp.pi rfl (by assumption) ?_
      | refine Wp.pr rfl (by assumption) ?_
      | refine Wp.pn rfl (by assumption) ?_
      | refine Wp.pl rfl (by assumption) ?_
      | refine Wp.aik rfl (by assumption) rfl (by first | with_reducible rfl | with_reducible assumption) (by omega) (by with_reducible assumption) ?_
      | refine Wp.aiN rfl (by assumption) rfl (by first | with_reducible rfl | with_reducible assumption) (by omega) ?_
      | refine Wp.siN rfl (by assumption) rfl (by first | with_reducible rfl | with_reducible assumption) (by omega) ?_
      | refine Wp.rt rfl rfl rfl rfl ?_
      | refine Wp.rz rfl rfl (by decide) ?_))
  refine Wp.na rfl (by decide) ?_
  refine Wp.pr rfl p1 ?_
  repeat' ((with_reducible fail_if_success show Wp _ _ 15 _ _ _ _); (first
      | (with_reducible refine Wp.lt (by omega) (by omega) (fun _ => ?_) (fun _ => ?_) <;> try (exfalso; omega))
      | (with_reducible refine Wp.le (by omega) (by omega) (fun _ => ?_) (fun _ => ?_) <;> try (exfalso; omega))
      | (with_reducible refine Wp.eq (by omega) (by omega) (fun _ => ?_) (fun _ => ?_) <;> try (exfalso; omega))
      | (with_reducible refine Wp.ne (by omega) (by omega) (fun _ => ?_) (fun _ => ?_) <;> try (exfalso; omega))
      | with_reducible refine Wp.lt0 (by omega) ?_
      | with_reducible refine Wp.ge0 (by omega) ?_
      | (with_reducible refine Wp.bz (fun _ => ?_) (fun _ => ?_) <;> try contradiction)
      | (with_reducible refine Wp.bn (fun _ => ?_) (fun _ => ?_) <;> try contradiction)
      | (with_reducible refine Wp.br (fun _ => ?_) (fun _ => ?_) <;> try contradiction)
      | refine Wp.gik rfl (by assumption) (by with_reducible assumption) ?_
      | refine Wp.gi rfl (by assumption) ?_
      | refine Wp.gz rfl (by assumption) ?_
      | refine Wp.gr rfl (by assumption) (by assumption) ?_
      | refine Wp.gn rfl (by assumption) (by assumption) ?_
      | refine Wp.gl rfl (by assumption) ?_
      | refine Wp.addn rfl (by with_reducible rfl) (by with_reducible rfl) ?_
      | refine Wp.muln rfl (by with_reducible rfl) (by with_reducible rfl) ?_
      | refine Wp.subn rfl (by with_reducible rfl) (by with_reducible rfl) (by omega) ?_
      | (refine Wp.decn rfl rfl ?_; dsimp only [List.set])
      | (refine Wp.incn rfl rfl ?_; dsimp only [List.set])
      | (refine Wp.go rfl rfl ?_; try dsimp only [List.set])
      | refine Wp.pi rfl (by assumption) ?_
      | refine Wp.pr rfl (by assumption) ?_
      | refine Wp.pn rfl (by assumption) ?_
      | refine Wp.pl rfl (by assumption) ?_
      | refine Wp.aik rfl (by assumption) rfl (by first | with_reducible rfl | with_reducible assumption) (by omega) (by with_reducible assumption) ?_
      | refine Wp.aiN rfl (by assumption) rfl (by first | with_reducible rfl | with_reducible assumption) (by omega) ?_
      | refine Wp.siN rfl (by assumption) rfl (by first | with_reducible rfl | with_reducible assumption) (by omega) ?_
      | refine Wp.rt rfl rfl rfl rfl ?_
      | refine Wp.rz rfl rfl (by decide) ?_))
  refine Wp.na rfl (by decide) ?_
  refine Wp.pr rfl p2 ?_
  repeat' (first
      | (with_reducible refine Wp.lt (by omega) (by omega) (fun _ => ?_) (fun _ => ?_) <;> try (exfalso; omega))
      | (with_reducible refine Wp.le (by omega) (by omega) (fun _ => ?_) (fun _ => ?_) <;> try (exfalso; omega))
      | (with_reducible refine Wp.eq (by omega) (by omega) (fun _ => ?_) (fun _ => ?_) <;> try (exfalso; omega))
      | (with_reducible refine Wp.ne (by omega) (by omega) (fun _ => ?_) (fun _ => ?_) <;> try (exfalso; omega))
      | with_reducible refine Wp.lt0 (by omega) ?_
      | with_reducible refine Wp.ge0 (by omega) ?_
      | (with_reducible refine Wp.bz (fun _ => ?_) (fun _ => ?_) <;> try contradiction)
      | (with_reducible refine Wp.bn (fun _ => ?_) (fun _ => ?_) <;> try contradiction)
      | (with_reducible refine Wp.br (fun _ => ?_) (fun _ => ?_) <;> try contradiction)
      | refine Wp.gik rfl (by assumption) (by with_reducible assumption) ?_
      | refine Wp.gi rfl (by assumption) ?_
      | refine Wp.gz rfl (by assumption) ?_
      | refine Wp.gr rfl (by assumption) (by assumption) ?_
      | refine Wp.gn rfl (by assumption) (by assumption) ?_
      | refine Wp.gl rfl (by assumption) ?_
      | refine Wp.addn rfl (by with_reducible rfl) (by with_reducible rfl) ?_
      | refine Wp.muln rfl (by with_reducible rfl) (by with_reducible rfl) ?_
      | refine Wp.subn rfl (by with_reducible rfl) (by with_reducible rfl) (by omega) ?_
      | (refine Wp.decn rfl rfl ?_; dsimp only [List.set])
      | (refine Wp.incn rfl rfl ?_; dsimp only [List.set])
      | (refine Wp.go rfl rfl ?_; try dsimp only [List.set])
      | refine Wp.pi rfl (by assumption) ?_
      | refine Wp.pr rfl (by assumption) ?_
      | refine Wp.pn rfl (by assumption) ?_
      | refine Wp.pl rfl (by assumption) ?_
      | refine Wp.aik rfl (by assumption) rfl (by first | with_reducible rfl | with_reducible assumption) (by omega) (by with_reducible assumption) ?_
      | refine Wp.aiN rfl (by assumption) rfl (by first | with_reducible rfl | with_reducible assumption) (by omega) ?_
      | refine Wp.siN rfl (by assumption) rfl (by first | with_reducible rfl | with_reducible assumption) (by omega) ?_
      | refine Wp.rt rfl rfl rfl rfl ?_
      | refine Wp.rz rfl rfl (by decide) ?_)
  refine ⟨rfl, ⟨[(true, 0, 25), (true, 0, 25)], by simp [x_new]⟩, fun b i hb => ?_, ⟨p2, ?_, ?_, ?_, ?_⟩, fun i => ?_, fun i => ?_, by simp [x_new], by simp [x_new, x_sz]⟩
  · have q1 : b ≠ a := by omega
    have q2 : b ≠ a + 1 := by omega
    have q3 : b ≠ a + 2 := by omega
    simp [x_new, hl, hl2, x_u, x_w, q1, q2, q3]
  · simp [zO, x_new, hl, hl2, x_u, x_w]
  · simp [zO, x_new, hl, hl2, x_u, x_w]
  · show (M.1 ++ [((true, 0, 25) : xK)] ++ [((true, 0, 25) : xK)])[a + 1]? = _
    rw [List.getElem?_append_left (by omega), ← hl]
    exact x_new_k M _
  · show (M.1 ++ [((true, 0, 25) : xK)] ++ [((true, 0, 25) : xK)])[a + 2]? = _
    rw [← hl2]
    exact x_new_k (M.1 ++ [(true, 0, 25)], M.2) _
  · simp [x_new, hl, hl2, x_u, x_w]
  · simp [x_new, hl, hl2, x_u, x_w]
def g_dup (I : xI) (v : Nat) : Nat → Nat → Int32 := fun o i => if o = 1 ∧ 1 ≤ i ∧ i ≤ 24 ∧ 0 < I (v + 1) i then I (v + 1) i else if o = 2 ∧ 1 ≤ i ∧ i ≤ 24 ∧ 0 < I (v + 1) i then c_vc I v i else 0
def v_post (M : xM) (g : Nat → Nat → Int32) (M' : xM) (w : Option Value) : Prop := ∃ a : Nat, w = some (.ref a) ∧ a = M.1.length ∧ M.1 <+: M'.1 ∧ (∀ b i, b < M.1.length → M'.2.1 b i = M.2.1 b i ∧ M'.2.2.1 b i = M.2.2.1 b i ∧ M'.2.2.2 b i = M.2.2.2 b i) ∧ vtA M' a g ∧ M'.1.length ≤ M.1.length + 3 ∧ x_sz M' ≤ x_sz M + 41 * 3
set_option maxHeartbeats 2000000 in
theorem k_dup (d : Nat) {v : Nat} (h8 : 108 ≤ M.1.length) (hv : vtK (zO M) v) : Ev (d + 5) 70 M [.ref v] (v_post M (g_dup M.2.1 v)) := by
  have hv2 := x_lt hv.2.2.2.2
  have hv3 : v + 2 < M.1.length := hv2
  refine Ev.of (ls := [some (.ref v), none]) rfl rfl ?_
  iterate 2 (refine Wp.go rfl rfl ?_)
  refine Wp.I0 rfl (Or.inl rfl) rfl (k_vnew (d + 2) (M := x_new M (false, 8, 2)) (x_new_k M _) (by simp [x_new])) (fun M' w hq => ?_)
  obtain ⟨rfl, g1, g2, g3, g4, g5, g6, g7⟩ := hq
  have g6' : M'.1.length = M.1.length + 3 := by rw [g6]; simp [x_new]
  have g7' : x_sz M' = x_sz M + 52 := by
    have e : x_sz (x_new M (false, 8, 2)) = x_sz M + 2 := x_sz_a M (false, 8, 2) _ _ _
    omega
  have g2' : ∀ b i, b < M.1.length → M'.2.1 b i = M.2.1 b i ∧ M'.2.2.1 b i = M.2.2.1 b i ∧ M'.2.2.2 b i = M.2.2.2 b i := fun b i hb => by
    have h1 := g2 b i hb
    have h2 := x_new_s M (false, 8, 2) b i hb
    exact ⟨h1.1.trans h2.1, h1.2.1.trans h2.2.1, h1.2.2.trans h2.2.2⟩
  have g1' : M.1 <+: M'.1 := (List.prefix_append _ _).trans g1
  have g3' : M'.1[M.1.length]? = some (false, 8, 2) := g3.1
  have hvk : vtK (zO M') v := ⟨x_pre g1' hv.1, ((g2' v 0 (by omega)).2.2).trans hv.2.1, ((g2' v 1 (by omega)).2.2).trans hv.2.2.1, x_pre g1' hv.2.2.2.1, x_pre g1' hv.2.2.2.2⟩
  show Wp (d + 4) 70 7 _ [.ref M.1.length] M' _
  repeat' (first
      | (with_reducible refine Wp.lt (by omega) (by omega) (fun _ => ?_) (fun _ => ?_) <;> try (exfalso; omega))
      | (with_reducible refine Wp.le (by omega) (by omega) (fun _ => ?_) (fun _ => ?_) <;> try (exfalso; omega))
      | (with_reducible refine Wp.eq (by omega) (by omega) (fun _ => ?_) (fun _ => ?_) <;> try (exfalso; omega))
      | (with_reducible refine Wp.ne (by omega) (by omega) (fun _ => ?_) (fun _ => ?_) <;> try (exfalso; omega))
      | with_reducible refine Wp.lt0 (by omega) ?_
      | with_reducible refine Wp.ge0 (by omega) ?_
      | (with_reducible refine Wp.bz (fun _ => ?_) (fun _ => ?_) <;> try contradiction)
      | (with_reducible refine Wp.bn (fun _ => ?_) (fun _ => ?_) <;> try contradiction)
      | (with_reducible refine Wp.br (fun _ => ?_) (fun _ => ?_) <;> try contradiction)
      | refine Wp.gik rfl (by assumption) (by with_reducible assumption) ?_
      | refine Wp.gi rfl (by assumption) ?_
      | refine Wp.gz rfl (by assumption) ?_
      | refine Wp.gr rfl (by assumption) (by assumption) ?_
      | refine Wp.gn rfl (by assumption) (by assumption) ?_
      | refine Wp.gl rfl (by assumption) ?_
      | refine Wp.addn rfl (by with_reducible rfl) (by with_reducible rfl) ?_
      | refine Wp.muln rfl (by with_reducible rfl) (by with_reducible rfl) ?_
      | refine Wp.subn rfl (by with_reducible rfl) (by with_reducible rfl) (by omega) ?_
      | (refine Wp.decn rfl rfl ?_; dsimp only [List.set])
      | (refine Wp.incn rfl rfl ?_; dsimp only [List.set])
      | (refine Wp.go rfl rfl ?_; try dsimp only [List.set])
      | refine Wp.pi rfl (by assumption) ?_
      | refine Wp.pr rfl (by assumption) ?_
      | refine Wp.pn rfl (by assumption) ?_
      | refine Wp.pl rfl (by assumption) ?_
      | refine Wp.aik rfl (by assumption) rfl (by first | with_reducible rfl | with_reducible assumption) (by omega) (by with_reducible assumption) ?_
      | refine Wp.aiN rfl (by assumption) rfl (by first | with_reducible rfl | with_reducible assumption) (by omega) ?_
      | refine Wp.siN rfl (by assumption) rfl (by first | with_reducible rfl | with_reducible assumption) (by omega) ?_
      | refine Wp.rt rfl rfl rfl rfl ?_
      | refine Wp.rz rfl rfl (by decide) ?_)
  refine Wp.V1v rfl g3' rfl (k_vmerge d M'.2.1 (Z := zO M') (Or.inl hv3) g3 hvk).ev ?_
  repeat' (first
      | (with_reducible refine Wp.lt (by omega) (by omega) (fun _ => ?_) (fun _ => ?_) <;> try (exfalso; omega))
      | (with_reducible refine Wp.le (by omega) (by omega) (fun _ => ?_) (fun _ => ?_) <;> try (exfalso; omega))
      | (with_reducible refine Wp.eq (by omega) (by omega) (fun _ => ?_) (fun _ => ?_) <;> try (exfalso; omega))
      | (with_reducible refine Wp.ne (by omega) (by omega) (fun _ => ?_) (fun _ => ?_) <;> try (exfalso; omega))
      | with_reducible refine Wp.lt0 (by omega) ?_
      | with_reducible refine Wp.ge0 (by omega) ?_
      | (with_reducible refine Wp.bz (fun _ => ?_) (fun _ => ?_) <;> try contradiction)
      | (with_reducible refine Wp.bn (fun _ => ?_) (fun _ => ?_) <;> try contradiction)
      | (with_reducible refine Wp.br (fun _ => ?_) (fun _ => ?_) <;> try contradiction)
      | refine Wp.gik rfl (by assumption) (by with_reducible assumption) ?_
      | refine Wp.gi rfl (by assumption) ?_
      | refine Wp.gz rfl (by assumption) ?_
      | refine Wp.gr rfl (by assumption) (by assumption) ?_
      | refine Wp.gn rfl (by assumption) (by assumption) ?_
      | refine Wp.gl rfl (by assumption) ?_
      | refine Wp.addn rfl (by with_reducible rfl) (by with_reducible rfl) ?_
      | refine Wp.muln rfl (by with_reducible rfl) (by with_reducible rfl) ?_
      | refine Wp.subn rfl (by with_reducible rfl) (by with_reducible rfl) (by omega) ?_
      | (refine Wp.decn rfl rfl ?_; dsimp only [List.set])
      | (refine Wp.incn rfl rfl ?_; dsimp only [List.set])
      | (refine Wp.go rfl rfl ?_; try dsimp only [List.set])
      | refine Wp.pi rfl (by assumption) ?_
      | refine Wp.pr rfl (by assumption) ?_
      | refine Wp.pn rfl (by assumption) ?_
      | refine Wp.pl rfl (by assumption) ?_
      | refine Wp.aik rfl (by assumption) rfl (by first | with_reducible rfl | with_reducible assumption) (by omega) (by with_reducible assumption) ?_
      | refine Wp.aiN rfl (by assumption) rfl (by first | with_reducible rfl | with_reducible assumption) (by omega) ?_
      | refine Wp.siN rfl (by assumption) rfl (by first | with_reducible rfl | with_reducible assumption) (by omega) ?_
      | refine Wp.rt rfl rfl rfl rfl ?_
      | refine Wp.rz rfl rfl (by decide) ?_)
  refine ⟨M.1.length, rfl, rfl, g1', fun b i hb => ⟨(c_mg_o _ (by omega)).trans (g2' b i hb).1, (g2' b i hb).2⟩, ⟨h8, g3, fun o i ho => ?_⟩, by show M'.1.length ≤ _; omega, by show x_sz M' ≤ _; omega⟩
  have e1 : M'.2.1 (v + 1) i = M.2.1 (v + 1) i := (g2' _ _ (by omega)).1
  have e2 : M'.2.1 (v + 2) i = M.2.1 (v + 2) i := (g2' _ _ (by omega)).1
  have e3 : c_vc M'.2.1 v i = c_vc M.2.1 v i := by rw [c_vc, c_vc, c_vh, c_vh, e1, e2]
  show c_mg M'.2.1 M.1.length v 24 (M.1.length + o) i = g_dup M.2.1 v o i
  have h9 : o = 0 ∨ o = 1 ∨ o = 2 := by omega
  rcases h9 with rfl | rfl | rfl
  · rw [c_mg_o _ (by omega), g_dup, if_neg (by omega), if_neg (by omega)]
    exact (g4 i).trans (x_w_a _ _ _ _)
  · simp only [c_mg, g_dup, e1, e3, (g5 i).1, true_and]
    by_cases h : 1 ≤ i ∧ i ≤ 24 ∧ 0 < M.2.1 (v + 1) i
    · rw [if_pos h, if_pos h]
    · rw [if_neg h, if_neg (by omega), if_neg h, if_neg (by omega)]
  · simp only [c_mg, g_dup, e1, e3, (g5 i).1, (g5 i).2, true_and]
    by_cases h : 1 ≤ i ∧ i ≤ 24 ∧ 0 < M.2.1 (v + 1) i
    · rw [if_neg (by omega), if_pos h, if_neg (by omega)]
    · rw [if_neg (by omega), if_neg h, if_neg (by omega)]
end ACTS
