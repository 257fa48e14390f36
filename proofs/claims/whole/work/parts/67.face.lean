/-! the class: its face -/
def c_ask (C : xCC) (g : Nat → Int32) : xCC := (x_u C.1 1 1 (nI (c_n C + 1)), C.2.1, C.2.2.1, x_p C.2.2.2.1 (c_n C + 1) g, C.2.2.2.2)
def g_rq (kd ky v : Int32) : Nat → Int32 := fun i => if i = 0 then kd else if i = 1 then ky else if i = 2 then v else 0
def c_rst (C : xCC) (r : Nat) : xCC := (x_u C.1 (9 + 13 * r) 3 1, C.2)
def c_fet (C : xCC) (r p : Nat) : xCC := c_put C (g_pl (nI 7) (nI r) (nI p) (nI 0) (nI (sl (C.2.1 r))) (nI 0))
section FACE
variable {M M1 : xM} {C C1 : xCC} {r : Nat} {s a : Nat} {S : xS} {m : xG}
theorem Rp.hm (h : Rp M C) : M.1[0]? = some (false, 9, 3) ∧ M.2.2.2 0 0 = some 1 ∧ M.2.2.2 0 1 = some 3 ∧ M.2.2.2 0 2 = some 5 ∧ M.1[5]? = some (true, 4, 5) ∧ (∀ r, r < 5 → M.2.2.2 5 r = some (9 + 13 * r)) ∧ M.1[1]? = some (false, 1, 2) ∧ M.1[3]? = some (false, 4, 2) := by
  obtain ⟨m1, m2, m3, m4, m5, m6⟩ := h.2.2.1.1
  exact ⟨m1, m2, m3, m4, m5, m6, h.2.2.1.2.2.1.1, h.2.2.1.2.1.1⟩
theorem Rp.ask (h : Rp M C) {g : Nat → Int32} (hn : c_n C < 40) (hk : M.1[a]? = some (false, 6, 5)) (h8 : 108 ≤ a) (hg : ∀ i, M.2.1 a i = g i) (ho : rqO g) (hf : ∀ q, 1 ≤ q → q ≤ c_n C → M.2.2.2 2 q ≠ some a) : Rp (M.1, x_u M.2.1 1 1 (nI (c_n C + 1)), M.2.2.1, x_u M.2.2.2 2 (c_n C + 1) (some a)) (c_ask C g) ∧ Ext 0 M (M.1, x_u M.2.1 1 1 (nI (c_n C + 1)), M.2.2.1, x_u M.2.2.2 2 (c_n C + 1) (some a)) := by
  obtain ⟨w1, w2, qa, w3, w4⟩ := h.n
  have hJ : ∀ b j, b ≠ 1 → x_u M.2.1 1 1 (nI (c_n C + 1)) b j = M.2.1 b j := fun b i hb => x_u_ne _ _ (fun q => hb q.1)
  have hC : ∀ b j, b ≠ 1 → x_u C.1 1 1 (nI (c_n C + 1)) b j = C.1 b j := fun b i hb => x_u_ne _ _ (fun q => hb q.1)
  have hR : ∀ b j, b ≠ 2 → x_u M.2.2.2 2 (c_n C + 1) (some a) b j = M.2.2.2 b j := fun b j hb => x_u_ne _ _ (fun q => hb q.1)
  have he : Ext 0 M (M.1, x_u M.2.1 1 1 (nI (c_n C + 1)), M.2.2.1, x_u M.2.2.2 2 (c_n C + 1) (some a)) := ⟨⟨List.prefix_refl _, fun b _ hb' _ j => ⟨hJ b j (by omega), rfl, hR b j (by omega)⟩⟩, Nat.le_refl _, Nat.le_refl _⟩
  obtain ⟨a1, a2, a3, a4, a5, a6, a7⟩ := h
  refine ⟨⟨fun b j hb => ?_, a2, a3.ext he (fun b j hb h2 h4 h6 => hR b j h2), a4.ext he (fun r hr => ⟨hR (9 + 13 * r) 7 (by omega), hR (9 + 13 * r) 6 (by omega)⟩) (fun _ _ => rfl) (fun _ _ => rfl), ⟨c_n C + 1, fun q => if q = c_n C + 1 then a else qa q, by omega, x_u_eq C.1 1 1 _, fun q h1 h2 => ?_, fun q q' h1 h2 h3 h4 hq => ?_⟩, a6.ext he (fun i => hR 4 i (by decide)) (hC 3 1 (by decide)) rfl, fun r hr => (hC (9 + 13 * r) 0 (by omega)).trans (a7 r hr)⟩, he⟩
  · show x_u M.2.1 1 1 (nI (c_n C + 1)) b j = x_u C.1 1 1 (nI (c_n C + 1)) b j
    simp only [x_u]
    split
    · rfl
    · exact a1 b j hb
  · by_cases e : q = c_n C + 1
    · subst e
      simp only [if_true]
      refine ⟨x_u_eq _ _ _ _, hk, h8, fun i => ?_, ?_⟩
      · show _ = x_p C.2.2.2.1 (c_n C + 1) g (c_n C + 1) i
        rw [x_p_eq, ← hg i]
        exact hJ a i (by omega)
      · show rqO (x_p C.2.2.2.1 (c_n C + 1) g (c_n C + 1))
        rw [x_p_eq]
        exact ho
    · obtain ⟨b1, b2, b3, b4, b5⟩ := w3 q h1 (by omega)
      simp only [if_neg e]
      refine ⟨(x_u_ne _ _ (by omega)).trans b1, b2, b3, fun i => ?_, ?_⟩
      · show _ = x_p C.2.2.2.1 (c_n C + 1) g q i
        rw [x_p_ne _ _ e, ← b4 i]
        exact hJ _ i (by omega)
      · show rqO (x_p C.2.2.2.1 (c_n C + 1) g q)
        rw [x_p_ne _ _ e]
        exact b5
  · by_cases e : q = c_n C + 1
    · by_cases e' : q' = c_n C + 1
      · omega
      · simp only [if_pos e, if_neg e'] at hq
        exact absurd (hq ▸ (w3 q' h3 (by omega)).1) (hf q' h3 (by omega))
    · by_cases e' : q' = c_n C + 1
      · simp only [if_neg e, if_pos e'] at hq
        exact absurd (hq ▸ (w3 q h1 (by omega)).1) (hf q h1 (by omega))
      · simp only [if_neg e, if_neg e'] at hq
        exact w4 q q' h1 (by omega) h3 (by omega) hq
set_option maxHeartbeats 2000000 in
theorem k_rq (d : Nat) (M : xM) (kd ky v : Int32) (hk : M.1[a]? = some (false, 6, 5)) : Ev (d + 2) 53 M [.ref a, .int kd, .int ky, .int v] (fun M' w => M' = (M.1, x_u (x_u (x_u M.2.1 a 0 kd) a 1 ky) a 2 v, M.2.2) ∧ w = none) := by
  refine Ev.of (ls := [some (.ref a), some (.int kd), some (.int ky), some (.int v)]) rfl rfl ?_
  repeat' (first
      | (with_reducible refine Wp.lt (by omega) (by omega) (fun _ => ?_) (fun _ => ?_) <;> try (exfalso; omega))
      | (with_reducible refine Wp.le (by omega) (by omega) (fun _ => ?_) (fun _ => ?_) <;> try (exfalso; omega))
      | (with_reducible refine Wp.eq (by omega) (by omega) (fun _ => ?_) (fun _ => ?_) <;> try (exfalso; omega))
      | (with_reducible refine Wp.ne (by omega) (by omega) (fun _ => ?_) (fun _ => ?_) <;> try (exfalso; omega))
      | with_reducible refine Wp.lt0 (by omega) ?_
      | with_reducible refine Wp.ge0 (by omega) ?_
      | (with_reducible refine Wp.bz (fun _ => ?_) (fun _ => ?_) <;> try contradiction)
      | (with_reducible refine Wp.bn (fun _ => ?_) (fun _ => ?_) <;> try contradiction)
      | (with_reducible refine Wp.br (fun _ => ?_) (fun _ => ?_) <;> try contradiction)
      | refine Wp.gik rfl (by assumption) (by with_reducible assumption) ?_
      | refine Wp.gi rfl (by assumption) ?_
      | refine Wp.gz rfl (by assumption) ?_
      | refine Wp.gr rfl (by assumption) (by assumption) ?_
      | refine Wp.gn rfl (by assumption) (by assumption) ?_
      | refine Wp.gl rfl (by assumption) ?_
      | refine Wp.addn rfl (by with_reducible rfl) (by with_reducible rfl) ?_
      | refine Wp.muln rfl (by with_reducible rfl) (by with_reducible rfl) ?_
      | refine Wp.subn rfl (by with_reducible rfl) (by with_reducible rfl) (by omega) ?_
      | (refine Wp.decn rfl rfl ?_; dsimp only [List.set])
      | (refine Wp.incn rfl rfl ?_; dsimp only [List.set])
      | (refine Wp.go rfl rfl ?_; try dsimp only [List.set])
      | refine Wp.pi rfl (by assumption) ?_
      | refine Wp.pr rfl (by assumption) ?_
      | refine Wp.pn rfl (by assumption) ?_
      | refine Wp.pl rfl (by assumption) ?_
      | refine Wp.aik rfl (by assumption) rfl (by first | with_reducible rfl | with_reducible assumption) (by omega) (by with_reducible assumption) ?_
      | refine Wp.aiN rfl (by assumption) rfl (by first | with_reducible rfl | with_reducible assumption) (by omega) ?_
      | refine Wp.siN rfl (by assumption) rfl (by first | with_reducible rfl | with_reducible assumption) (by omega) ?_
      | refine Wp.rt rfl rfl rfl rfl ?_
      | refine Wp.rz rfl rfl (by decide) ?_)
  exact ⟨rfl, rfl⟩
set_option maxHeartbeats 4000000 in
theorem k_ask1 (d : Nat) (h : Rp M C) {kd ky : Nat} {v : Int32} (hk : kd ≤ 4) (hy : ky < 4) (hv : kd = 4 → ∃ b, b < 32 ∧ v = nI b) (hn : c_n C < 40) : Wp (d + 2) 74 34 [some (.ref 0), some (.int (nI kd)), some (.int (nI ky)), some (.int v)] [] M (fun M' w => Rp M' (c_ask C (g_rq (nI kd) (nI ky) v)) ∧ Ext 1 M M' ∧ w = some (.int (nI (c_n C + 1)))) := by
  obtain ⟨m1, m2, m3, m4, m5, m6, m7, m8⟩ := h.hm
  repeat' ((with_reducible fail_if_success show Wp _ _ 45 _ _ _ _); (first
      | (with_reducible refine Wp.lt (by omega) (by omega) (fun _ => ?_) (fun _ => ?_) <;> try (exfalso; omega))
      | (with_reducible refine Wp.le (by omega) (by omega) (fun _ => ?_) (fun _ => ?_) <;> try (exfalso; omega))
      | (with_reducible refine Wp.eq (by omega) (by omega) (fun _ => ?_) (fun _ => ?_) <;> try (exfalso; omega))
      | (with_reducible refine Wp.ne (by omega) (by omega) (fun _ => ?_) (fun _ => ?_) <;> try (exfalso; omega))
      | with_reducible refine Wp.lt0 (by omega) ?_
      | with_reducible refine Wp.ge0 (by omega) ?_
      | (with_reducible refine Wp.bz (fun _ => ?_) (fun _ => ?_) <;> try contradiction)
      | (with_reducible refine Wp.bn (fun _ => ?_) (fun _ => ?_) <;> try contradiction)
      | (with_reducible refine Wp.br (fun _ => ?_) (fun _ => ?_) <;> try contradiction)
      | refine Wp.gik rfl (by assumption) (by with_reducible assumption) ?_
      | refine Wp.gi rfl (by assumption) ?_
      | refine Wp.gz rfl (by assumption) ?_
      | refine Wp.gr rfl (by assumption) (by assumption) ?_
      | refine Wp.gn rfl (by assumption) (by assumption) ?_
      | refine Wp.gl rfl (by assumption) ?_
      | refine Wp.addn rfl (by with_reducible rfl) (by with_reducible rfl) ?_
      | refine Wp.muln rfl (by with_reducible rfl) (by with_reducible rfl) ?_
      | refine Wp.subn rfl (by with_reducible rfl) (by with_reducible rfl) (by omega) ?_
      | (refine Wp.decn rfl rfl ?_; dsimp only [List.set])
      | (refine Wp.incn rfl rfl ?_; dsimp only [List.set])
      | (refine Wp.go rfl rfl ?_; try dsimp only [List.set])
      | refine Wp.pi rfl (by assumption) ?_
      | refine Wp.pr rfl (by assumption) ?_
      | refine Wp.pn rfl (by assumption) ?_
      | refine Wp.pl rfl (by assumption) ?_
      | refine Wp.aik rfl (by assumption) rfl (by first | with_reducible rfl | with_reducible assumption) (by omega) (by with_reducible assumption) ?_
      | refine Wp.aiN rfl (by assumption) rfl (by first | with_reducible rfl | with_reducible assumption) (by omega) ?_
      | refine Wp.siN rfl (by assumption) rfl (by first | with_reducible rfl | with_reducible assumption) (by omega) ?_
      | refine Wp.rt rfl rfl rfl rfl ?_
      | refine Wp.rz rfl rfl (by decide) ?_))
  refine Wp.I3v rfl (Or.inl rfl) rfl (k_rq d (x_new M (false, 6, 5)) (nI kd) (nI ky) v (x_new_k M _)) ?_
  have hG := h.grow (M' := ((x_new M (false, 6, 5)).1, x_u (x_u (x_u (x_new M (false, 6, 5)).2.1 M.1.length 0 (nI kd)) M.1.length 1 (nI ky)) M.1.length 2 v, (x_new M (false, 6, 5)).2.2)) (b := 1) (List.prefix_append _ _) (by simp [x_new]) (by have e : x_sz (x_new M (false, 6, 5)) = x_sz M + 5 := x_sz_a M (false, 6, 5) _ _ _; show x_sz (x_new M (false, 6, 5)) ≤ _; omega) (fun x i hx => by
    have o := x_new_s M (false, 6, 5) x i hx
    refine ⟨?_, o.2.1, o.2.2⟩
    show x_u (x_u (x_u (x_new M (false, 6, 5)).2.1 M.1.length 0 (nI kd)) M.1.length 1 (nI ky)) M.1.length 2 v x i = _
    rw [x_u_ne _ _ (by omega), x_u_ne _ _ (by omega), x_u_ne _ _ (by omega)]
    exact o.1)
  have hgi : ∀ i, x_u (x_u (x_u (x_new M (false, 6, 5)).2.1 M.1.length 0 (nI kd)) M.1.length 1 (nI ky)) M.1.length 2 v M.1.length i = g_rq (nI kd) (nI ky) v i := fun i => by
    have e0 : (x_new M (false, 6, 5)).2.1 M.1.length i = 0 := x_w_a _ _ _ _
    simp only [x_u, g_rq, true_and, e0]
    repeat' split
    all_goals first | rfl | (exfalso; omega)
  have hfr : ∀ q, 1 ≤ q → q ≤ c_n C → (x_new M (false, 6, 5)).2.2.2 2 q ≠ some M.1.length := fun q h1 h2 => by
    obtain ⟨w1, w2, qa, w3, w4⟩ := h.n
    rw [(x_new_s M (false, 6, 5) 2 q (by have := h.2.1; omega)).2.2, (w3 q h1 h2).1]
    intro hq
    have := x_lt (w3 q h1 h2).2.1
    have := Option.some.inj hq
    omega
  have hro : rqO (g_rq (nI kd) (nI ky) v) := ⟨⟨kd, hk, rfl⟩, ⟨ky, hy, rfl⟩, fun q => hv ((nI_eq (a := kd) (b := 4) (by omega) (by omega)).mp q)⟩
  have hA := hG.1.ask (a := M.1.length) hn (x_new_k M _) h.2.1 hgi hro hfr
  generalize hM1 : (((x_new M (false, 6, 5)).1, x_u (x_u (x_u (x_new M (false, 6, 5)).2.1 M.1.length 0 (nI kd)) M.1.length 1 (nI ky)) M.1.length 2 v, (x_new M (false, 6, 5)).2.2) : xM) = M1 at hG hA
  have hkq : M1.1[M.1.length]? = some (false, 6, 5) := by rw [← hM1]; exact x_new_k M _
  have c1 : M1.1[1]? = some (false, 1, 2) := hG.1.hm.2.2.2.2.2.2.1
  have c2 : M1.2.2.2 1 0 = some 2 := hG.1.2.2.1.2.2.1.2.1
  have c3 : M1.1[2]? = some (true, 2, 41) := hG.1.2.2.1.2.2.1.2.2
  have hcn : M1.2.1 1 1 = nI (c_n C) := (hG.1.1 1 1 (by omega)).trans hG.1.n.1
  have hcn' : x_u M1.2.1 1 1 (nI (c_n C + 1)) 1 1 = nI (c_n C + 1) := x_u_eq _ _ _ _
  have hadd : Ev (d + 2) 7 M1 [.ref 1, .ref M.1.length] (fun M' w => M' = (M1.1, x_u M1.2.1 1 1 (nI (c_n C + 1)), M1.2.2.1, x_u M1.2.2.2 2 (c_n C + 1) (some M.1.length)) ∧ w = some (.int (nI (c_n C + 1)))) := by
    refine Ev.of (ls := [some (.ref 1), some (.ref M.1.length)]) rfl rfl ?_
    repeat' ((with_reducible fail_if_success show Wp _ _ 30 _ _ _ _); (first
      | (with_reducible refine Wp.lt (by omega) (by omega) (fun _ => ?_) (fun _ => ?_) <;> try (exfalso; omega))
      | (with_reducible refine Wp.le (by omega) (by omega) (fun _ => ?_) (fun _ => ?_) <;> try (exfalso; omega))
      | (with_reducible refine Wp.eq (by omega) (by omega) (fun _ => ?_) (fun _ => ?_) <;> try (exfalso; omega))
      | (with_reducible refine Wp.ne (by omega) (by omega) (fun _ => ?_) (fun _ => ?_) <;> try (exfalso; omega))
      | with_reducible refine Wp.lt0 (by omega) ?_
      | with_reducible refine Wp.ge0 (by omega) ?_
      | (with_reducible refine Wp.bz (fun _ => ?_) (fun _ => ?_) <;> try contradiction)
      | (with_reducible refine Wp.bn (fun _ => ?_) (fun _ => ?_) <;> try contradiction)
      | (with_reducible refine Wp.br (fun _ => ?_) (fun _ => ?_) <;> try contradiction)
      | refine Wp.gik rfl (by assumption) (by with_reducible assumption) ?_
      | refine Wp.gi rfl (by assumption) ?_
      | refine Wp.gz rfl (by assumption) ?_
      | refine Wp.gr rfl (by assumption) (by assumption) ?_
      | refine Wp.gn rfl (by assumption) (by assumption) ?_
      | refine Wp.gl rfl (by assumption) ?_
      | refine Wp.addn rfl (by with_reducible rfl) (by with_reducible rfl) ?_
      | refine Wp.muln rfl (by with_reducible rfl) (by with_reducible rfl) ?_
      | refine Wp.subn rfl (by with_reducible rfl) (by with_reducible rfl) (by omega) ?_
      | (refine Wp.decn rfl rfl ?_; dsimp only [List.set])
      | (refine Wp.incn rfl rfl ?_; dsimp only [List.set])
      | (refine Wp.go rfl rfl ?_; try dsimp only [List.set])
      | refine Wp.pi rfl (by assumption) ?_
      | refine Wp.pr rfl (by assumption) ?_
      | refine Wp.pn rfl (by assumption) ?_
      | refine Wp.pl rfl (by assumption) ?_
      | refine Wp.aik rfl (by assumption) rfl (by first | with_reducible rfl | with_reducible assumption) (by omega) (by with_reducible assumption) ?_
      | refine Wp.aiN rfl (by assumption) rfl (by first | with_reducible rfl | with_reducible assumption) (by omega) ?_
      | refine Wp.siN rfl (by assumption) rfl (by first | with_reducible rfl | with_reducible assumption) (by omega) ?_
      | refine Wp.rt rfl rfl rfl rfl ?_
      | refine Wp.rz rfl rfl (by decide) ?_))
    refine Wp.sq rfl c3 (by decide) hkq rfl (by omega) (by decide) ?_
    repeat' (first
      | (with_reducible refine Wp.lt (by omega) (by omega) (fun _ => ?_) (fun _ => ?_) <;> try (exfalso; omega))
      | (with_reducible refine Wp.le (by omega) (by omega) (fun _ => ?_) (fun _ => ?_) <;> try (exfalso; omega))
      | (with_reducible refine Wp.eq (by omega) (by omega) (fun _ => ?_) (fun _ => ?_) <;> try (exfalso; omega))
      | (with_reducible refine Wp.ne (by omega) (by omega) (fun _ => ?_) (fun _ => ?_) <;> try (exfalso; omega))
      | with_reducible refine Wp.lt0 (by omega) ?_
      | with_reducible refine Wp.ge0 (by omega) ?_
      | (with_reducible refine Wp.bz (fun _ => ?_) (fun _ => ?_) <;> try contradiction)
      | (with_reducible refine Wp.bn (fun _ => ?_) (fun _ => ?_) <;> try contradiction)
      | (with_reducible refine Wp.br (fun _ => ?_) (fun _ => ?_) <;> try contradiction)
      | refine Wp.gik rfl (by assumption) (by with_reducible assumption) ?_
      | refine Wp.gi rfl (by assumption) ?_
      | refine Wp.gz rfl (by assumption) ?_
      | refine Wp.gr rfl (by assumption) (by assumption) ?_
      | refine Wp.gn rfl (by assumption) (by assumption) ?_
      | refine Wp.gl rfl (by assumption) ?_
      | refine Wp.addn rfl (by with_reducible rfl) (by with_reducible rfl) ?_
      | refine Wp.muln rfl (by with_reducible rfl) (by with_reducible rfl) ?_
      | refine Wp.subn rfl (by with_reducible rfl) (by with_reducible rfl) (by omega) ?_
      | (refine Wp.decn rfl rfl ?_; dsimp only [List.set])
      | (refine Wp.incn rfl rfl ?_; dsimp only [List.set])
      | (refine Wp.go rfl rfl ?_; try dsimp only [List.set])
      | refine Wp.pi rfl (by assumption) ?_
      | refine Wp.pr rfl (by assumption) ?_
      | refine Wp.pn rfl (by assumption) ?_
      | refine Wp.pl rfl (by assumption) ?_
      | refine Wp.aik rfl (by assumption) rfl (by first | with_reducible rfl | with_reducible assumption) (by omega) (by with_reducible assumption) ?_
      | refine Wp.aiN rfl (by assumption) rfl (by first | with_reducible rfl | with_reducible assumption) (by omega) ?_
      | refine Wp.siN rfl (by assumption) rfl (by first | with_reducible rfl | with_reducible assumption) (by omega) ?_
      | refine Wp.rt rfl rfl rfl rfl ?_
      | refine Wp.rz rfl rfl (by decide) ?_)
    exact ⟨rfl, rfl⟩
  refine Wp.V1i rfl c1 rfl hadd ?_
  repeat' (first
      | (with_reducible refine Wp.lt (by omega) (by omega) (fun _ => ?_) (fun _ => ?_) <;> try (exfalso; omega))
      | (with_reducible refine Wp.le (by omega) (by omega) (fun _ => ?_) (fun _ => ?_) <;> try (exfalso; omega))
      | (with_reducible refine Wp.eq (by omega) (by omega) (fun _ => ?_) (fun _ => ?_) <;> try (exfalso; omega))
      | (with_reducible refine Wp.ne (by omega) (by omega) (fun _ => ?_) (fun _ => ?_) <;> try (exfalso; omega))
      | with_reducible refine Wp.lt0 (by omega) ?_
      | with_reducible refine Wp.ge0 (by omega) ?_
      | (with_reducible refine Wp.bz (fun _ => ?_) (fun _ => ?_) <;> try contradiction)
      | (with_reducible refine Wp.bn (fun _ => ?_) (fun _ => ?_) <;> try contradiction)
      | (with_reducible refine Wp.br (fun _ => ?_) (fun _ => ?_) <;> try contradiction)
      | refine Wp.gik rfl (by assumption) (by with_reducible assumption) ?_
      | refine Wp.gi rfl (by assumption) ?_
      | refine Wp.gz rfl (by assumption) ?_
      | refine Wp.gr rfl (by assumption) (by assumption) ?_
      | refine Wp.gn rfl (by assumption) (by assumption) ?_
      | refine Wp.gl rfl (by assumption) ?_
      | refine Wp.addn rfl (by with_reducible rfl) (by with_reducible rfl) ?_
      | refine Wp.muln rfl (by with_reducible rfl) (by with_reducible rfl) ?_
      | refine Wp.subn rfl (by with_reducible rfl) (by with_reducible rfl) (by omega) ?_
      | (refine Wp.decn rfl rfl ?_; dsimp only [List.set])
      | (refine Wp.incn rfl rfl ?_; dsimp only [List.set])
      | (refine Wp.go rfl rfl ?_; try dsimp only [List.set])
      | refine Wp.pi rfl (by assumption) ?_
      | refine Wp.pr rfl (by assumption) ?_
      | refine Wp.pn rfl (by assumption) ?_
      | refine Wp.pl rfl (by assumption) ?_
      | refine Wp.aik rfl (by assumption) rfl (by first | with_reducible rfl | with_reducible assumption) (by omega) (by with_reducible assumption) ?_
      | refine Wp.aiN rfl (by assumption) rfl (by first | with_reducible rfl | with_reducible assumption) (by omega) ?_
      | refine Wp.siN rfl (by assumption) rfl (by first | with_reducible rfl | with_reducible assumption) (by omega) ?_
      | refine Wp.rt rfl rfl rfl rfl ?_
      | refine Wp.rz rfl rfl (by decide) ?_)
  exact ⟨hA.1, hG.2.trans hA.2, rfl⟩
set_option maxHeartbeats 4000000 in
theorem k_ask (d : Nat) (h : Rp M C) {kd ky : Nat} {v : Int32} (hk : kd ≤ 4) (hy : ky < 4) (hv : f_askok kd v) (hn : c_n C < 40) : Ev (d + 3) 74 M [.ref 0, .int (nI kd), .int (nI ky), .int v] (fun M' w => Rp M' (c_ask C (g_rq (nI kd) (nI ky) v)) ∧ Ext 1 M M' ∧ w = some (.int (nI (c_n C + 1)))) := by
  have hv2 : kd = 4 → ∃ b, b < 32 ∧ v = nI b := fun q => by
    obtain ⟨a1, a2, a3⟩ := hv q
    have b1 : (0 : Int) ≤ v.toInt := by
      have := Int32.not_lt.mp a1
      rw [Int32.le_iff_toInt_le] at this
      exact this
    have b2 : v.toInt ≤ 31 := by
      have := Int32.not_lt.mp a2
      rw [Int32.le_iff_toInt_le] at this
      exact this
    refine ⟨v.toInt.toNat, by omega, ?_⟩
    apply Int32.toInt_inj.mp
    rw [nI_toInt (by omega)]
    omega
  refine Ev.of (ls := [some (.ref 0), some (.int (nI kd)), some (.int (nI ky)), some (.int v)]) rfl rfl ?_
  repeat' ((with_reducible fail_if_success show Wp _ _ 22 _ _ _ _); (first
      | (with_reducible refine Wp.lt (by omega) (by omega) (fun _ => ?_) (fun _ => ?_) <;> try (exfalso; omega))
      | (with_reducible refine Wp.le (by omega) (by omega) (fun _ => ?_) (fun _ => ?_) <;> try (exfalso; omega))
      | (with_reducible refine Wp.eq (by omega) (by omega) (fun _ => ?_) (fun _ => ?_) <;> try (exfalso; omega))
      | (with_reducible refine Wp.ne (by omega) (by omega) (fun _ => ?_) (fun _ => ?_) <;> try (exfalso; omega))
      | with_reducible refine Wp.lt0 (by omega) ?_
      | with_reducible refine Wp.ge0 (by omega) ?_
      | (with_reducible refine Wp.bz (fun _ => ?_) (fun _ => ?_) <;> try contradiction)
      | (with_reducible refine Wp.bn (fun _ => ?_) (fun _ => ?_) <;> try contradiction)
      | (with_reducible refine Wp.br (fun _ => ?_) (fun _ => ?_) <;> try contradiction)
      | refine Wp.gik rfl (by assumption) (by with_reducible assumption) ?_
      | refine Wp.gi rfl (by assumption) ?_
      | refine Wp.gz rfl (by assumption) ?_
      | refine Wp.gr rfl (by assumption) (by assumption) ?_
      | refine Wp.gn rfl (by assumption) (by assumption) ?_
      | refine Wp.gl rfl (by assumption) ?_
      | refine Wp.addn rfl (by with_reducible rfl) (by with_reducible rfl) ?_
      | refine Wp.muln rfl (by with_reducible rfl) (by with_reducible rfl) ?_
      | refine Wp.subn rfl (by with_reducible rfl) (by with_reducible rfl) (by omega) ?_
      | (refine Wp.decn rfl rfl ?_; dsimp only [List.set])
      | (refine Wp.incn rfl rfl ?_; dsimp only [List.set])
      | (refine Wp.go rfl rfl ?_; try dsimp only [List.set])
      | refine Wp.pi rfl (by assumption) ?_
      | refine Wp.pr rfl (by assumption) ?_
      | refine Wp.pn rfl (by assumption) ?_
      | refine Wp.pl rfl (by assumption) ?_
      | refine Wp.aik rfl (by assumption) rfl (by first | with_reducible rfl | with_reducible assumption) (by omega) (by with_reducible assumption) ?_
      | refine Wp.aiN rfl (by assumption) rfl (by first | with_reducible rfl | with_reducible assumption) (by omega) ?_
      | refine Wp.siN rfl (by assumption) rfl (by first | with_reducible rfl | with_reducible assumption) (by omega) ?_
      | refine Wp.rt rfl rfl rfl rfl ?_
      | refine Wp.rz rfl rfl (by decide) ?_))
  by_cases h4 : kd = 4
  · obtain ⟨a1, a2, a3⟩ := hv h4
    subst h4
    repeat' ((with_reducible fail_if_success show Wp _ _ 26 _ _ _ _); (first
      | (with_reducible refine Wp.lt (by omega) (by omega) (fun _ => ?_) (fun _ => ?_) <;> try (exfalso; omega))
      | (with_reducible refine Wp.le (by omega) (by omega) (fun _ => ?_) (fun _ => ?_) <;> try (exfalso; omega))
      | (with_reducible refine Wp.eq (by omega) (by omega) (fun _ => ?_) (fun _ => ?_) <;> try (exfalso; omega))
      | (with_reducible refine Wp.ne (by omega) (by omega) (fun _ => ?_) (fun _ => ?_) <;> try (exfalso; omega))
      | with_reducible refine Wp.lt0 (by omega) ?_
      | with_reducible refine Wp.ge0 (by omega) ?_
      | (with_reducible refine Wp.bz (fun _ => ?_) (fun _ => ?_) <;> try contradiction)
      | (with_reducible refine Wp.bn (fun _ => ?_) (fun _ => ?_) <;> try contradiction)
      | (with_reducible refine Wp.br (fun _ => ?_) (fun _ => ?_) <;> try contradiction)
      | refine Wp.gik rfl (by assumption) (by with_reducible assumption) ?_
      | refine Wp.gi rfl (by assumption) ?_
      | refine Wp.gz rfl (by assumption) ?_
      | refine Wp.gr rfl (by assumption) (by assumption) ?_
      | refine Wp.gn rfl (by assumption) (by assumption) ?_
      | refine Wp.gl rfl (by assumption) ?_
      | refine Wp.addn rfl (by with_reducible rfl) (by with_reducible rfl) ?_
      | refine Wp.muln rfl (by with_reducible rfl) (by with_reducible rfl) ?_
      | refine Wp.subn rfl (by with_reducible rfl) (by with_reducible rfl) (by omega) ?_
      | (refine Wp.decn rfl rfl ?_; dsimp only [List.set])
      | (refine Wp.incn rfl rfl ?_; dsimp only [List.set])
      | (refine Wp.go rfl rfl ?_; try dsimp only [List.set])
      | refine Wp.pi rfl (by assumption) ?_
      | refine Wp.pr rfl (by assumption) ?_
      | refine Wp.pn rfl (by assumption) ?_
      | refine Wp.pl rfl (by assumption) ?_
      | refine Wp.aik rfl (by assumption) rfl (by first | with_reducible rfl | with_reducible assumption) (by omega) (by with_reducible assumption) ?_
      | refine Wp.aiN rfl (by assumption) rfl (by first | with_reducible rfl | with_reducible assumption) (by omega) ?_
      | refine Wp.siN rfl (by assumption) rfl (by first | with_reducible rfl | with_reducible assumption) (by omega) ?_
      | refine Wp.rt rfl rfl rfl rfl ?_
      | refine Wp.rz rfl rfl (by decide) ?_))
    refine Wp.S1i rfl rfl (k_isMem d M.2.1 (Z := zO M) v).ev0 ?_
    rw [decide_eq_true (Int32.not_lt.mp a1), decide_eq_true (Int32.not_lt.mp a2), decide_eq_true a3]
    repeat' ((with_reducible fail_if_success show Wp _ _ 34 _ _ _ _); (first
      | (with_reducible refine Wp.lt (by omega) (by omega) (fun _ => ?_) (fun _ => ?_) <;> try (exfalso; omega))
      | (with_reducible refine Wp.le (by omega) (by omega) (fun _ => ?_) (fun _ => ?_) <;> try (exfalso; omega))
      | (with_reducible refine Wp.eq (by omega) (by omega) (fun _ => ?_) (fun _ => ?_) <;> try (exfalso; omega))
      | (with_reducible refine Wp.ne (by omega) (by omega) (fun _ => ?_) (fun _ => ?_) <;> try (exfalso; omega))
      | with_reducible refine Wp.lt0 (by omega) ?_
      | with_reducible refine Wp.ge0 (by omega) ?_
      | (with_reducible refine Wp.bz (fun _ => ?_) (fun _ => ?_) <;> try contradiction)
      | (with_reducible refine Wp.bn (fun _ => ?_) (fun _ => ?_) <;> try contradiction)
      | (with_reducible refine Wp.br (fun _ => ?_) (fun _ => ?_) <;> try contradiction)
      | refine Wp.gik rfl (by assumption) (by with_reducible assumption) ?_
      | refine Wp.gi rfl (by assumption) ?_
      | refine Wp.gz rfl (by assumption) ?_
      | refine Wp.gr rfl (by assumption) (by assumption) ?_
      | refine Wp.gn rfl (by assumption) (by assumption) ?_
      | refine Wp.gl rfl (by assumption) ?_
      | refine Wp.addn rfl (by with_reducible rfl) (by with_reducible rfl) ?_
      | refine Wp.muln rfl (by with_reducible rfl) (by with_reducible rfl) ?_
      | refine Wp.subn rfl (by with_reducible rfl) (by with_reducible rfl) (by omega) ?_
      | (refine Wp.decn rfl rfl ?_; dsimp only [List.set])
      | (refine Wp.incn rfl rfl ?_; dsimp only [List.set])
      | (refine Wp.go rfl rfl ?_; try dsimp only [List.set])
      | refine Wp.pi rfl (by assumption) ?_
      | refine Wp.pr rfl (by assumption) ?_
      | refine Wp.pn rfl (by assumption) ?_
      | refine Wp.pl rfl (by assumption) ?_
      | refine Wp.aik rfl (by assumption) rfl (by first | with_reducible rfl | with_reducible assumption) (by omega) (by with_reducible assumption) ?_
      | refine Wp.aiN rfl (by assumption) rfl (by first | with_reducible rfl | with_reducible assumption) (by omega) ?_
      | refine Wp.siN rfl (by assumption) rfl (by first | with_reducible rfl | with_reducible assumption) (by omega) ?_
      | refine Wp.rt rfl rfl rfl rfl ?_
      | refine Wp.rz rfl rfl (by decide) ?_))
    exact k_ask1 d h hk hy hv2 hn
  · repeat' ((with_reducible fail_if_success show Wp _ _ 34 _ _ _ _); (first
      | (with_reducible refine Wp.lt (by omega) (by omega) (fun _ => ?_) (fun _ => ?_) <;> try (exfalso; omega))
      | (with_reducible refine Wp.le (by omega) (by omega) (fun _ => ?_) (fun _ => ?_) <;> try (exfalso; omega))
      | (with_reducible refine Wp.eq (by omega) (by omega) (fun _ => ?_) (fun _ => ?_) <;> try (exfalso; omega))
      | (with_reducible refine Wp.ne (by omega) (by omega) (fun _ => ?_) (fun _ => ?_) <;> try (exfalso; omega))
      | with_reducible refine Wp.lt0 (by omega) ?_
      | with_reducible refine Wp.ge0 (by omega) ?_
      | (with_reducible refine Wp.bz (fun _ => ?_) (fun _ => ?_) <;> try contradiction)
      | (with_reducible refine Wp.bn (fun _ => ?_) (fun _ => ?_) <;> try contradiction)
      | (with_reducible refine Wp.br (fun _ => ?_) (fun _ => ?_) <;> try contradiction)
      | refine Wp.gik rfl (by assumption) (by with_reducible assumption) ?_
      | refine Wp.gi rfl (by assumption) ?_
      | refine Wp.gz rfl (by assumption) ?_
      | refine Wp.gr rfl (by assumption) (by assumption) ?_
      | refine Wp.gn rfl (by assumption) (by assumption) ?_
      | refine Wp.gl rfl (by assumption) ?_
      | refine Wp.addn rfl (by with_reducible rfl) (by with_reducible rfl) ?_
      | refine Wp.muln rfl (by with_reducible rfl) (by with_reducible rfl) ?_
      | refine Wp.subn rfl (by with_reducible rfl) (by with_reducible rfl) (by omega) ?_
      | (refine Wp.decn rfl rfl ?_; dsimp only [List.set])
      | (refine Wp.incn rfl rfl ?_; dsimp only [List.set])
      | (refine Wp.go rfl rfl ?_; try dsimp only [List.set])
      | refine Wp.pi rfl (by assumption) ?_
      | refine Wp.pr rfl (by assumption) ?_
      | refine Wp.pn rfl (by assumption) ?_
      | refine Wp.pl rfl (by assumption) ?_
      | refine Wp.aik rfl (by assumption) rfl (by first | with_reducible rfl | with_reducible assumption) (by omega) (by with_reducible assumption) ?_
      | refine Wp.aiN rfl (by assumption) rfl (by first | with_reducible rfl | with_reducible assumption) (by omega) ?_
      | refine Wp.siN rfl (by assumption) rfl (by first | with_reducible rfl | with_reducible assumption) (by omega) ?_
      | refine Wp.rt rfl rfl rfl rfl ?_
      | refine Wp.rz rfl rfl (by decide) ?_))
    exact k_ask1 d h hk hy hv2 hn
set_option maxHeartbeats 4000000 in
theorem k_ask0 (d : Nat) (h : Rp M C) {x y v : Int32} (hn : c_n C = 40) : Wp (d + 2) 74 34 [some (.ref 0), some (.int x), some (.int y), some (.int v)] [] M (fun M' w => Rp M' C ∧ Ext 1 M M' ∧ w = some (.int (-1))) := by
  obtain ⟨m1, m2, m3, m4, m5, m6, m7, m8⟩ := h.hm
  repeat' ((with_reducible fail_if_success show Wp _ _ 45 _ _ _ _); (first
      | (with_reducible refine Wp.lt (by omega) (by omega) (fun _ => ?_) (fun _ => ?_) <;> try (exfalso; omega))
      | (with_reducible refine Wp.le (by omega) (by omega) (fun _ => ?_) (fun _ => ?_) <;> try (exfalso; omega))
      | (with_reducible refine Wp.eq (by omega) (by omega) (fun _ => ?_) (fun _ => ?_) <;> try (exfalso; omega))
      | (with_reducible refine Wp.ne (by omega) (by omega) (fun _ => ?_) (fun _ => ?_) <;> try (exfalso; omega))
      | with_reducible refine Wp.lt0 (by omega) ?_
      | with_reducible refine Wp.ge0 (by omega) ?_
      | (with_reducible refine Wp.bz (fun _ => ?_) (fun _ => ?_) <;> try contradiction)
      | (with_reducible refine Wp.bn (fun _ => ?_) (fun _ => ?_) <;> try contradiction)
      | (with_reducible refine Wp.br (fun _ => ?_) (fun _ => ?_) <;> try contradiction)
      | refine Wp.gik rfl (by assumption) (by with_reducible assumption) ?_
      | refine Wp.gi rfl (by assumption) ?_
      | refine Wp.gz rfl (by assumption) ?_
      | refine Wp.gr rfl (by assumption) (by assumption) ?_
      | refine Wp.gn rfl (by assumption) (by assumption) ?_
      | refine Wp.gl rfl (by assumption) ?_
      | refine Wp.addn rfl (by with_reducible rfl) (by with_reducible rfl) ?_
      | refine Wp.muln rfl (by with_reducible rfl) (by with_reducible rfl) ?_
      | refine Wp.subn rfl (by with_reducible rfl) (by with_reducible rfl) (by omega) ?_
      | (refine Wp.decn rfl rfl ?_; dsimp only [List.set])
      | (refine Wp.incn rfl rfl ?_; dsimp only [List.set])
      | (refine Wp.go rfl rfl ?_; try dsimp only [List.set])
      | refine Wp.pi rfl (by assumption) ?_
      | refine Wp.pr rfl (by assumption) ?_
      | refine Wp.pn rfl (by assumption) ?_
      | refine Wp.pl rfl (by assumption) ?_
      | refine Wp.aik rfl (by assumption) rfl (by first | with_reducible rfl | with_reducible assumption) (by omega) (by with_reducible assumption) ?_
      | refine Wp.aiN rfl (by assumption) rfl (by first | with_reducible rfl | with_reducible assumption) (by omega) ?_
      | refine Wp.siN rfl (by assumption) rfl (by first | with_reducible rfl | with_reducible assumption) (by omega) ?_
      | refine Wp.rt rfl rfl rfl rfl ?_
      | refine Wp.rz rfl rfl (by decide) ?_))
  refine Wp.I3v rfl (Or.inl rfl) rfl (k_rq d (x_new M (false, 6, 5)) x y v (x_new_k M _)) ?_
  have hG := h.grow (M' := ((x_new M (false, 6, 5)).1, x_u (x_u (x_u (x_new M (false, 6, 5)).2.1 M.1.length 0 x) M.1.length 1 y) M.1.length 2 v, (x_new M (false, 6, 5)).2.2)) (b := 1) (List.prefix_append _ _) (by simp [x_new]) (by have e : x_sz (x_new M (false, 6, 5)) = x_sz M + 5 := x_sz_a M (false, 6, 5) _ _ _; show x_sz (x_new M (false, 6, 5)) ≤ _; omega) (fun z i hx => by
    have o := x_new_s M (false, 6, 5) z i hx
    refine ⟨?_, o.2.1, o.2.2⟩
    show x_u (x_u (x_u (x_new M (false, 6, 5)).2.1 M.1.length 0 x) M.1.length 1 y) M.1.length 2 v z i = _
    rw [x_u_ne _ _ (by omega), x_u_ne _ _ (by omega), x_u_ne _ _ (by omega)]
    exact o.1)
  generalize hM1 : (((x_new M (false, 6, 5)).1, x_u (x_u (x_u (x_new M (false, 6, 5)).2.1 M.1.length 0 x) M.1.length 1 y) M.1.length 2 v, (x_new M (false, 6, 5)).2.2) : xM) = M1 at hG
  have c1 : M1.1[1]? = some (false, 1, 2) := hG.1.hm.2.2.2.2.2.2.1
  have hcn : M1.2.1 1 1 = nI 40 := (hG.1.1 1 1 (by omega)).trans (hn ▸ hG.1.n.1)
  have hadd : Ev (d + 2) 7 M1 [.ref 1, .ref M.1.length] (fun M' w => M' = M1 ∧ w = some (.int (-1))) := by
    refine Ev.of (ls := [some (.ref 1), some (.ref M.1.length)]) rfl rfl ?_
    repeat' (first
      | (with_reducible refine Wp.lt (by omega) (by omega) (fun _ => ?_) (fun _ => ?_) <;> try (exfalso; omega))
      | (with_reducible refine Wp.le (by omega) (by omega) (fun _ => ?_) (fun _ => ?_) <;> try (exfalso; omega))
      | (with_reducible refine Wp.eq (by omega) (by omega) (fun _ => ?_) (fun _ => ?_) <;> try (exfalso; omega))
      | (with_reducible refine Wp.ne (by omega) (by omega) (fun _ => ?_) (fun _ => ?_) <;> try (exfalso; omega))
      | with_reducible refine Wp.lt0 (by omega) ?_
      | with_reducible refine Wp.ge0 (by omega) ?_
      | (with_reducible refine Wp.bz (fun _ => ?_) (fun _ => ?_) <;> try contradiction)
      | (with_reducible refine Wp.bn (fun _ => ?_) (fun _ => ?_) <;> try contradiction)
      | (with_reducible refine Wp.br (fun _ => ?_) (fun _ => ?_) <;> try contradiction)
      | refine Wp.gik rfl (by assumption) (by with_reducible assumption) ?_
      | refine Wp.gi rfl (by assumption) ?_
      | refine Wp.gz rfl (by assumption) ?_
      | refine Wp.gr rfl (by assumption) (by assumption) ?_
      | refine Wp.gn rfl (by assumption) (by assumption) ?_
      | refine Wp.gl rfl (by assumption) ?_
      | refine Wp.addn rfl (by with_reducible rfl) (by with_reducible rfl) ?_
      | refine Wp.muln rfl (by with_reducible rfl) (by with_reducible rfl) ?_
      | refine Wp.subn rfl (by with_reducible rfl) (by with_reducible rfl) (by omega) ?_
      | (refine Wp.decn rfl rfl ?_; dsimp only [List.set])
      | (refine Wp.incn rfl rfl ?_; dsimp only [List.set])
      | (refine Wp.go rfl rfl ?_; try dsimp only [List.set])
      | refine Wp.pi rfl (by assumption) ?_
      | refine Wp.pr rfl (by assumption) ?_
      | refine Wp.pn rfl (by assumption) ?_
      | refine Wp.pl rfl (by assumption) ?_
      | refine Wp.aik rfl (by assumption) rfl (by first | with_reducible rfl | with_reducible assumption) (by omega) (by with_reducible assumption) ?_
      | refine Wp.aiN rfl (by assumption) rfl (by first | with_reducible rfl | with_reducible assumption) (by omega) ?_
      | refine Wp.siN rfl (by assumption) rfl (by first | with_reducible rfl | with_reducible assumption) (by omega) ?_
      | refine Wp.rt rfl rfl rfl rfl ?_
      | refine Wp.rz rfl rfl (by decide) ?_)
    exact ⟨rfl, rfl⟩
  refine Wp.V1i rfl c1 rfl hadd ?_
  repeat' (first
      | (with_reducible refine Wp.lt (by omega) (by omega) (fun _ => ?_) (fun _ => ?_) <;> try (exfalso; omega))
      | (with_reducible refine Wp.le (by omega) (by omega) (fun _ => ?_) (fun _ => ?_) <;> try (exfalso; omega))
      | (with_reducible refine Wp.eq (by omega) (by omega) (fun _ => ?_) (fun _ => ?_) <;> try (exfalso; omega))
      | (with_reducible refine Wp.ne (by omega) (by omega) (fun _ => ?_) (fun _ => ?_) <;> try (exfalso; omega))
      | with_reducible refine Wp.lt0 (by omega) ?_
      | with_reducible refine Wp.ge0 (by omega) ?_
      | (with_reducible refine Wp.bz (fun _ => ?_) (fun _ => ?_) <;> try contradiction)
      | (with_reducible refine Wp.bn (fun _ => ?_) (fun _ => ?_) <;> try contradiction)
      | (with_reducible refine Wp.br (fun _ => ?_) (fun _ => ?_) <;> try contradiction)
      | refine Wp.gik rfl (by assumption) (by with_reducible assumption) ?_
      | refine Wp.gi rfl (by assumption) ?_
      | refine Wp.gz rfl (by assumption) ?_
      | refine Wp.gr rfl (by assumption) (by assumption) ?_
      | refine Wp.gn rfl (by assumption) (by assumption) ?_
      | refine Wp.gl rfl (by assumption) ?_
      | refine Wp.addn rfl (by with_reducible rfl) (by with_reducible rfl) ?_
      | refine Wp.muln rfl (by with_reducible rfl) (by with_reducible rfl) ?_
      | refine Wp.subn rfl (by with_reducible rfl) (by with_reducible rfl) (by omega) ?_
      | (refine Wp.decn rfl rfl ?_; dsimp only [List.set])
      | (refine Wp.incn rfl rfl ?_; dsimp only [List.set])
      | (refine Wp.go rfl rfl ?_; try dsimp only [List.set])
      | refine Wp.pi rfl (by assumption) ?_
      | refine Wp.pr rfl (by assumption) ?_
      | refine Wp.pn rfl (by assumption) ?_
      | refine Wp.pl rfl (by assumption) ?_
      | refine Wp.aik rfl (by assumption) rfl (by first | with_reducible rfl | with_reducible assumption) (by omega) (by with_reducible assumption) ?_
      | refine Wp.aiN rfl (by assumption) rfl (by first | with_reducible rfl | with_reducible assumption) (by omega) ?_
      | refine Wp.siN rfl (by assumption) rfl (by first | with_reducible rfl | with_reducible assumption) (by omega) ?_
      | refine Wp.rt rfl rfl rfl rfl ?_
      | refine Wp.rz rfl rfl (by decide) ?_)
  exact ⟨hG.1, hG.2, rfl⟩
end FACE
