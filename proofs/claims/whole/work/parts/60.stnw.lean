/-! the class: a state after one command more -/
def s_new (S : xS) : xS := (fun o i => if o = 0 then (if i = 0 then nI (sl S + 1) else if i = 4 then S.1 0 4 else if i = 5 then S.1 0 4 else if i = 6 then S.1 0 5 else 0) else S.1 o i, S.2)
def s_ans (S : xS) (g : Nat → Int32) : Int32 := if g 0 = nI 2 then S.1 1 (g 1).toNatClampNeg + g 2 else if g 0 = nI 4 then S.1 0 4 else S.1 1 (g 1).toNatClampNeg
def s_upd (S : xS) (g : Nat → Int32) : Nat → Nat → Int32 :=
  if g 0 = nI 1 ∨ (g 0 = nI 3 ∧ S.1 1 (g 1).toNatClampNeg = 0) then x_u S.1 1 (g 1).toNatClampNeg (g 2)
  else if g 0 = nI 2 then x_u S.1 1 (g 1).toNatClampNeg (S.1 1 (g 1).toNatClampNeg + g 2)
  else if g 0 = nI 4 then x_u S.1 0 4 (g 2) else S.1
def s_act (S : xS) (q : Nat) (g : Nat → Int32) : xS := (x_u (s_upd S g) 2 q (s_ans S g), S.2 ||| (lN 1 <<< ((nI q).toInt64 &&& 63)))
def s_aft (S : xS) (q : Nat) (g : Nat → Int32) : xS := if c_dn S.2 q = true then s_new S else s_act (s_new S) q g
theorem s_new_ok {S : xS} (h : sOK S) (hf : sl S < 24) : sOK (s_new S) ∧ sl (s_new S) = sl S + 1 := by
  have e0 : (s_new S).1 0 0 = nI (sl S + 1) := rfl
  have e : sl (s_new S) = sl S + 1 := by rw [sl, e0]; exact nI_clamp (by omega)
  refine ⟨⟨by rw [e, e0], by omega, fun j h1 h2 => ?_⟩, e⟩
  have h3 : j = 4 ∨ j = 5 ∨ j = 6 := by omega
  rcases h3 with rfl | rfl | rfl
  · exact h.2.2 4 (by decide) (by decide)
  · exact h.2.2 4 (by decide) (by decide)
  · exact h.2.2 5 (by decide) (by decide)
theorem s_upd_0 (S : xS) (g : Nat → Int32) {i : Nat} (h : i ≠ 4) : s_upd S g 0 i = S.1 0 i := by
  rw [s_upd]
  split
  · exact x_u_ne _ _ (by omega)
  · split
    · exact x_u_ne _ _ (by omega)
    · split
      · exact x_u_ne _ _ (by omega)
      · rfl
theorem s_upd_4 (S : xS) (g : Nat → Int32) : s_upd S g 0 4 = if g 0 = nI 4 then g 2 else S.1 0 4 := by
  rw [s_upd]
  split
  · rename_i h
    rw [x_u_ne _ _ (by omega), if_neg (fun q => by
      rcases h with h | h
      · rw [q] at h
        exact absurd h (by decide)
      · exact absurd (q.symm.trans h.1) (by decide))]
  · split
    · rename_i h
      rw [x_u_ne _ _ (by omega), if_neg (fun q => by rw [q] at h; revert h; decide)]
    · split
      · exact x_u_eq _ _ _ _
      · rfl
theorem s_act_ok {S : xS} {g : Nat → Int32} (q : Nat) (h : sOK S) (hg : rqO g) : sOK (s_act S q g) ∧ sl (s_act S q g) = sl S := by
  have e0 : ∀ i, i ≠ 4 → (s_act S q g).1 0 i = S.1 0 i := fun i hi => by
    show x_u (s_upd S g) 2 q (s_ans S g) 0 i = _
    rw [x_u_ne _ _ (by omega), s_upd_0 _ _ hi]
  have e : sl (s_act S q g) = sl S := by rw [sl, e0 0 (by decide)]; rfl
  refine ⟨⟨by rw [e, e0 0 (by decide)]; exact h.1, by rw [e]; exact h.2.1, fun j h1 h2 => ?_⟩, e⟩
  by_cases h4 : j = 4
  · subst h4
    have e4 : (s_act S q g).1 0 4 = s_upd S g 0 4 := by
      show x_u (s_upd S g) 2 q (s_ans S g) 0 4 = _
      exact x_u_ne _ _ (by omega)
    rw [e4, s_upd_4]
    split
    · rename_i h5
      exact hg.2.2 h5
    · exact h.2.2 4 (by decide) (by decide)
  · rw [e0 j h4]
    exact h.2.2 j h1 h2
theorem s_aft_ok {S : xS} {g : Nat → Int32} (q : Nat) (h : sOK S) (hf : sl S < 24) (hg : rqO g) : sOK (s_aft S q g) ∧ sl (s_aft S q g) = sl S + 1 := by
  obtain ⟨h1, h2⟩ := s_new_ok h hf
  rw [s_aft]
  split
  · exact ⟨h1, h2⟩
  · obtain ⟨h3, h4⟩ := s_act_ok (g := g) q h1 hg
    exact ⟨h3, h4.trans h2⟩
section STNW
variable {M : xM} {C : xCC}
set_option maxHeartbeats 4000000 in
theorem k_stnew (d : Nat) {a p : Nat} {S : xS} (hk : M.1[a]? = some (false, 7, 7)) (hl : M.1.length = a + 1) (h8 : 108 ≤ a) (hI : ∀ i, M.2.1 a i = 0) (hs : stA M p S) (hf : sl S < 24) : Ev (d + 2) 60 M [.ref a, .ref p] (fun M' v => v = none ∧ M.1 <+: M'.1 ∧ (∀ b i, b < a → M'.2.1 b i = M.2.1 b i ∧ M'.2.2.1 b i = M.2.2.1 b i ∧ M'.2.2.2 b i = M.2.2.2 b i) ∧ stA M' a (s_new S) ∧ M'.1.length = M.1.length + 2 ∧ x_sz M' = x_sz M + 45) := by
  obtain ⟨s0, ⟨s1, s2, s3, s4, s5⟩, s6, s7, s8⟩ := hs
  have s1' : M.1[p]? = some (false, 7, 7) := s1
  have s2' : M.2.2.2 p 1 = some (p + 1) := s2
  have s4' : M.1[p + 1]? = some (true, 0, 4) := s4
  have s5' : M.1[p + 2]? = some (true, 0, 41) := s5
  have hp2 : p + 2 < a := by
    have h1 := x_lt s5'
    have h2 : p + 2 ≠ a := fun q => by rw [q, hk] at s5'; exact absurd s5' (by decide)
    omega
  have e0 : M.2.1 p 0 = nI (sl S) := (s6 0 0 (by decide) (by decide)).trans s8.1
  have p1 : ∀ {b : Nat} {kd : xK}, M.1[b]? = some kd → (M.1 ++ [(true, 0, 4)])[b]? = some kd := fun h => x_pre (List.prefix_append _ _) h
  have p2 : ∀ {b : Nat} {kd : xK}, M.1[b]? = some kd → (M.1 ++ [(true, 0, 4)] ++ [(true, 0, 41)])[b]? = some kd := fun h => x_pre (List.prefix_append _ _) (p1 h)
  refine Ev.of (ls := [some (.ref a), some (.ref p)]) rfl rfl ?_
  repeat' ((with_reducible fail_if_success show Wp _ _ 19 _ _ _ _); (first
      | (with_reducible refine Wp.lt (by omega) (by omega) (fun _ => ?_) (fun _ => ?_) <;> try (exfalso; omega))
      | (with_reducible refine Wp.le (by omega) (by omega) (fun _ => ?_) (fun _ => ?_) <;> try (exfalso; omega))
      | (with_reducible refine Wp.eq (by omega) (by omega) (fun _ => ?_) (fun _ => ?_) <;> try (exfalso; omega))
      | (with_reducible refine Wp.ne (by omega) (by omega) (fun _ => ?_) (fun _ => ?_) <;> try (exfalso; omega))
      | with_reducible refine Wp.lt0 (by omega) ?_
      | with_reducible refine Wp.ge0 (by omega) ?_
      | (with_reducible refine Wp.bz (fun _ => ?_) (fun _ => ?_) <;> try contradiction)
      | (with_reducible refine Wp.bn (fun _ => ?_) (fun _ => ?_) <;> try contradiction)
      | (with_reducible refine Wp.br (fun _ => ?_) (fun _ => ?_) <;> try contradiction)
      | refine Wp.gik rfl (by assumption) (by with_reducible assumption) ?_
      | refine Wp.gi rfl (by assumption) ?_
      | refine Wp.gz rfl (by assumption) ?_
      | refine Wp.gr rfl (by assumption) (by assumption) ?_
      | refine Wp.gn rfl (by assumption) (by assumption) ?_
      | refine Wp.gl rfl (by assumption) ?_
      | refine Wp.addn rfl (by with_reducible rfl) (by with_reducible rfl) ?_
      | refine Wp.muln rfl (by with_reducible rfl) (by with_reducible rfl) ?_
      | refine Wp.subn rfl (by with_reducible rfl) (by with_reducible rfl) (by omega) ?_
      | (refine Wp.decn rfl rfl ?_; dsimp only [List.set])
      | (refine Wp.incn rfl rfl ?_; dsimp only [List.set])
      | (refine Wp.go rfl rfl ?_; try dsimp only [List.set])
      | refine Wp.pi rfl (by assumption) ?_
      | refine Wp.pr rfl (by assumption) ?_
      | refine Wp.pn rfl (by assumption) ?_
      | refine Wp.pl rfl (by assumption) ?_
      | refine Wp.aik rfl (by assumption) rfl (by first | with_reducible rfl | with_reducible assumption) (by omega) (by with_reducible assumption) ?_
      | refine Wp.aiN rfl (by assumption) rfl (by first | with_reducible rfl | with_reducible assumption) (by omega) ?_
      | refine Wp.siN rfl (by assumption) rfl (by first | with_reducible rfl | with_reducible assumption) (by omega) ?_
      | refine Wp.rt rfl rfl rfl rfl ?_
      | refine Wp.rz rfl rfl (by decide) ?_))
  refine Wp.cln rfl s4' rfl ?_
  refine Wp.cc rfl (x_new_k M _) ?_
  refine Wp.pr rfl (p1 hk) ?_
  have r2 : x_u (x_w M.2.2.2 M.1.length none) a 1 (some M.1.length) p 2 = some (p + 2) := by
    rw [x_u_ne _ _ (by omega), x_w_o _ _ _ (by omega)]
    exact s3
  iterate 2 (refine Wp.go rfl rfl ?_)
  refine Wp.gr rfl (p1 s1') r2 ?_
  refine Wp.cln rfl (p1 s5') rfl ?_
  refine Wp.cc rfl (x_new_k (M.1 ++ [(true, 0, 4)], M.2) _) ?_
  refine Wp.pr rfl (p2 hk) ?_
  have pk := p2 hk
  have pp := p2 s1'
  iterate 2 (refine Wp.go rfl rfl ?_)
  refine Wp.gl rfl pp ?_
  refine Wp.pl rfl pk ?_
  iterate 2 (refine Wp.go rfl rfl ?_)
  refine Wp.gi rfl pp ?_
  refine Wp.pi rfl pk ?_
  iterate 2 (refine Wp.go rfl rfl ?_)
  refine Wp.gi rfl pp ?_
  refine Wp.pi rfl pk ?_
  iterate 2 (refine Wp.go rfl rfl ?_)
  refine Wp.gi rfl pp ?_
  refine Wp.pi rfl pk ?_
  refine Wp.rt rfl rfl rfl rfl ?_
  have hl2 : (M.1 ++ [((true, 0, 4) : xK)]).length = a + 2 := by simp [hl]
  refine ⟨rfl, ⟨[(true, 0, 4), (true, 0, 41)], by simp [x_dup]⟩, fun b i hb => ?_, ⟨Or.inr h8, ⟨pk, ?_, ?_, ?_, ?_⟩, fun o i ho hi => ?_, ?_, (s_new_ok s8 hf).1⟩, by simp [x_dup], by simp [x_dup, x_sz]⟩
  · simp only [x_dup, hl, hl2, x_u, x_w, x_c]
    have q1 : b ≠ a := by omega
    have q2 : b ≠ a + 1 := by omega
    have q3 : b ≠ a + 2 := by omega
    simp [q1, q2, q3]
  · simp [zO, x_dup, hl, hl2, x_u, x_w]
  · simp [zO, x_dup, hl, hl2, x_u, x_w]
  · show (M.1 ++ [((true, 0, 4) : xK)] ++ [(true, 0, 41)])[a + 1]? = _
    rw [List.getElem?_append_left (by omega), ← hl]
    exact x_new_k M _
  · show (M.1 ++ [((true, 0, 4) : xK)] ++ [(true, 0, 41)])[a + 2]? = _
    rw [← hl2]
    exact x_new_k (M.1 ++ [(true, 0, 4)], M.2) _
  · have q1 : p ≠ a := by omega
    have q2 : p ≠ a + 1 := by omega
    have q3 : p ≠ a + 2 := by omega
    have q4 : p + 1 ≠ a := by omega
    have q5 : p + 2 ≠ a := by omega
    have q6 : p + 2 ≠ a + 1 := by omega
    have t4 : M.2.1 p 4 = S.1 0 4 := s6 0 4 (by decide) (by decide)
    have t5 : M.2.1 p 5 = S.1 0 5 := s6 0 5 (by decide) (by decide)
    have t1 : M.2.1 (p + 1) i = S.1 1 i := s6 1 i (by decide) hi
    have t2 : M.2.1 (p + 2) i = S.1 2 i := s6 2 i (by decide) hi
    have h9 : o = 0 ∨ o = 1 ∨ o = 2 := by omega
    rcases h9 with rfl | rfl | rfl
    · simp only [x_dup, hl, hl2, x_u, x_w, x_c, s_new]
      simp only [q1, q2, q3, t4, t5, hI, true_and, false_and, if_false, if_true, Nat.add_zero, show ¬ (a = a + 1) by omega, show ¬ (a = a + 2) by omega]
      repeat' split
      all_goals first | rfl | (exfalso; omega)
    · simp [x_dup, hl, hl2, x_u, x_w, x_c, s_new, q4, t1]
    · simp [x_dup, hl, hl2, x_u, x_w, x_c, s_new, q5, q6, t2]
  · have q1 : p ≠ a + 1 := by omega
    have q2 : p ≠ a + 2 := by omega
    simp [x_dup, hl, hl2, x_u, x_w, s_new, q1, q2, s7]
end STNW
