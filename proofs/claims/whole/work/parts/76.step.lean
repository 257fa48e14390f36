/-! the invariant: the steps of a replica -/
section STEPS
variable {B n : Nat} {I I' : xI} {G G' : xGh} {r : Nat}
theorem Inv.R (h : Inv B n I G) (hr : r < 5) : iD B I r ∧ iV I G r ∧ iP n I G r := h.2.2.2.2.1 r hr
theorem Inv.A (h : Inv B n I G) : iA I G := h.2.1
theorem Inv.Bq (h : Inv B n I G) : iB n I G := h.2.2.1
theorem Inv.rq (h : Inv B n I G) : rqV I n := h.1.2.1
theorem Inv.ch (h : Inv B n I G) : chV I n := h.1.2.2.1
theorem iD.c (h : iD B I r) (h0 : ∀ s, I' 80 s = I 80 s) (h1 : I' 81 r = I 81 r) (h2 : I' 82 r = I 82 r) (h3 : I' 83 r = I 83 r) (h4 : I' 84 r = I 84 r) : iD B I' r := by
  obtain ⟨⟨f, g, a1, a2, a3, a4, a5⟩, ⟨p, p1, p2, p3⟩, a7⟩ := h
  refine ⟨⟨f, g, h2.trans a1, h3.trans a2, a3, a4, fun s s1 s2 => by rw [h0]; exact a5 s s1 s2⟩, ⟨p, p1, p2, h1.trans p3⟩, fun s s1 s2 s3 => ?_⟩
  rw [h4] at s3
  rw [h0]
  exact a7 s s1 s2 s3
theorem iV.c (h : iV I G r) (h1 : I' 81 r = I 81 r) (h2 : I' 82 r = I 82 r) (h5 : ∀ s, 0 ≤ s → s ≤ 24 → I' 85 (25 * r + s) = I 85 (25 * r + s) ∧ I' 86 (25 * r + s) = I 86 (25 * r + s)) : iV I' G r := by
  refine ⟨(h5 0 (by decide) (by decide)).1.trans h.1, fun s s1 s2 => ?_⟩
  rw [h1, h2, (h5 s (by omega) s2).1, (h5 s (by omega) s2).2]
  exact h.2 s s1 s2
theorem iP.c (h : iP n I G r) (h1 : ∀ j, I' 81 j = I 81 j) (h3 : I' 83 r = I 83 r) (h7 : I' 87 r = I 87 r) (h8 : I' 88 r = I 88 r) (h9 : ∀ s, 1 ≤ s → s ≤ 24 → I' 89 (25 * r + s) = I 89 (25 * r + s) ∧ I' 90 (25 * r + s) = I 90 (25 * r + s) ∧ I' 91 (25 * r + s) = I 91 (25 * r + s) ∧ I' 92 (25 * r + s) = I 92 (25 * r + s)) : iP n I' G r := by
  obtain ⟨b1, b2, b3, b4⟩ := h
  refine ⟨by rw [h7]; exact b1, by rw [h7, h1]; exact b2, fun s s1 s2 => by rw [(h9 s s1 s2).2.2.1]; exact b3 s s1 s2, fun hp => ?_⟩
  rw [h7] at hp
  obtain ⟨d1, d2, d3⟩ := b4 hp
  rw [h7, h8]
  refine ⟨d1, fun j hj hb => by rw [h1]; exact d2 j hj hb, fun s s1 s2 => ?_⟩
  obtain ⟨k1, k2, k3, k4⟩ := h9 s s1 s2
  rw [iPs, h7, h8, h3, k1, k2, k3, k4]
  exact d3 s s1 s2
/-- a step with the ghost as it was -/
theorem Inv.rep0 (h : Inv B n I G) (ho : Orr I I' r) (h81 : I 81 r ≤ I' 81 r) {B' : Nat} (hBB : B ≤ B') (hr : iD B' I' r ∧ iV I' G r ∧ iP n I' G r) : Inv B' n I' G ∧ Mo n I G I' G r := by
  have hmo : Mo n I G I' G r := ho.mo h81 (fun _ _ _ z => z) (fun _ _ _ z => z) (fun _ _ _ z => Or.inl z) (fun _ _ _ z => Or.inl z)
  exact ⟨h.rep ho hmo (fun _ _ _ z1 z2 => absurd z1 z2) (fun _ _ _ z1 z2 => absurd z1 z2) hBB hr, hmo⟩
theorem Inv.prm (h : Inv B n I G) (hr : r < 5) {p B' : Nat} (hp : I 81 r ≤ nI p) (hB : p ≤ B') (hp2 : p < 2 ^ 31) (hBB : B ≤ B') : Inv B' n (x_u I 81 r (nI p)) G ∧ Mo n I G (x_u I 81 r (nI p)) G r := by
  have e : ∀ a i, a ≠ 81 → x_u I 81 r (nI p) a i = I a i := fun a i ha => x_u_ne _ _ (fun q => ha q.1)
  have e1 : x_u I 81 r (nI p) 81 r = nI p := x_u_eq _ _ _ _
  have em : ∀ j, I 81 j ≤ x_u I 81 r (nI p) 81 j := fun j => by
    by_cases q : j = r
    · rw [q, e1]; exact hp
    · rw [x_u_ne _ _ (by omega)]; exact Int32.le_refl _
  obtain ⟨⟨⟨f, g, a1, a2, a3, a4, a5⟩, _, a7⟩, hv, b1, b2, b3, b4⟩ := h.R hr
  refine h.rep0 (I' := x_u I 81 r (nI p)) (fun a i _ hn => x_u_ne _ _ (fun q => hn (Or.inl ⟨Or.inl q.1, q.2⟩))) (by rw [e1]; exact hp) hBB ⟨⟨⟨f, g, (e 82 r (by decide)).trans a1, (e 83 r (by decide)).trans a2, a3, a4, fun s s1 s2 => by rw [e 80 s (by decide)]; exact a5 s s1 s2⟩, ⟨p, hB, hp2, e1⟩, fun s s1 s2 s3 => ?_⟩, ⟨by rw [e 85 _ (by decide)]; exact hv.1, fun s s1 s2 => ?_⟩, ?_, ?_, fun s s1 s2 => ?_, fun hp' => ?_⟩
  · rw [e 84 r (by decide)] at s3
    rw [e 80 s (by decide)]
    exact a7 s s1 s2 s3
  · obtain ⟨c1, c2, c3, c4⟩ := hv.2 s s1 s2
    rw [e 85 _ (by decide), e 86 _ (by decide), e 82 _ (by decide)]
    exact ⟨c1, i_tr c2 (em r), c3, c4⟩
  · rw [e 87 _ (by decide)]; exact b1
  · rw [e 87 _ (by decide)]; exact i_tr b2 (em r)
  · rw [e 91 _ (by decide)]; exact b3 s s1 s2
  · rw [e 87 _ (by decide)] at hp'
    obtain ⟨d1, d2, d3⟩ := b4 hp'
    rw [e 87 _ (by decide), e 88 _ (by decide)]
    refine ⟨d1, fun j hj hb => i_tr (d2 j hj hb) (em j), fun s s1 s2 => ?_⟩
    rw [iPs, e 87 _ (by decide), e 88 _ (by decide), e 83 _ (by decide), e 89 _ (by decide), e 90 _ (by decide), e 91 _ (by decide), e 92 _ (by decide)]
    exact d3 s s1 s2
def gV (G : xGh) (r : Nat) (b : Int32) (s : Nat) : xGh := (G.1, fun a b' s' => G.2 a b' s' ∨ (a = r ∧ b' = b ∧ s' = s))
theorem Inv.cast (h : Inv B n I G) (hr : r < 5) {s : Nat} {b c : Int32} (s1 : 1 ≤ s) (s2 : s ≤ 24) (hb : I 81 r = b) (hp : G.1 b s = some c) : Inv B n (f_cast I r s b c) (gV G r b s) ∧ Mo n I G (f_cast I r s b c) (gV G r b s) r := by
  have e : ∀ a i, a ≠ 85 → a ≠ 86 → f_cast I r s b c a i = I a i := fun a i h1 h2 => by
    rw [f_cast, x_u_ne _ _ (fun q => h2 q.1), x_u_ne _ _ (fun q => h1 q.1)]
  have o : ∀ a i, i ≠ 25 * r + s → f_cast I r s b c a i = I a i := fun a i h1 => by
    rw [f_cast, x_u_ne _ _ (fun q => h1 q.2), x_u_ne _ _ (fun q => h1 q.2)]
  have e5 : f_cast I r s b c 85 (25 * r + s) = b := by rw [f_cast, x_u_ne _ _ (by omega), x_u_eq]
  have e6 : f_cast I r s b c 86 (25 * r + s) = c := by rw [f_cast, x_u_eq]
  have ho : Orr I (f_cast I r s b c) r := fun a i _ hn => by
    by_cases h5 : a = 85 ∨ a = 86
    · exact o a i (fun q => hn (Or.inr ⟨by omega, by omega, by omega⟩))
    · exact e a i (fun q => h5 (Or.inl q)) (fun q => h5 (Or.inr q))
  have hmo : Mo n I G (f_cast I r s b c) (gV G r b s) r := by
    refine ho.mo (by rw [e 81 r (by decide) (by decide)]; exact Int32.le_refl _) (fun _ _ _ z => z) (fun _ _ _ z => Or.inl z) (fun a b' s' z => ?_) (fun _ _ _ z => Or.inl z)
    rcases z with z | ⟨z1, z2, z3⟩
    · exact Or.inl z
    · subst z1
      exact Or.inr ⟨rfl, by rw [z2, hb]; exact Int32.le_refl _⟩
  obtain ⟨hd, hv, hP⟩ := h.R hr
  have hd' : iD B (f_cast I r s b c) r := hd.c (fun s => e _ _ (by decide) (by decide)) (e _ _ (by decide) (by decide)) (e _ _ (by decide) (by decide)) (e _ _ (by decide) (by decide)) (e _ _ (by decide) (by decide))
  obtain ⟨p, p1, p2, p3⟩ := hd.2.1
  obtain ⟨b1, b2, b3, b4⟩ := hP
  refine ⟨h.rep ho hmo (fun a b' s' z1 z2 => ?_) (fun _ _ _ z1 z2 => absurd z1 z2) (Nat.le_refl _) ⟨hd', ⟨by rw [o _ _ (by omega)]; exact hv.1, fun t t1 t2 => ?_⟩, ?_, ?_, fun s s1 s2 => ?_, fun hp' => ?_⟩, hmo⟩
  · rcases z1 with z1 | ⟨z1, z3, z4⟩
    · exact absurd z1 z2
    · subst z1
      subst z3
      subst z4
      rw [e 81 _ (by decide) (by decide), hb]
      exact ⟨hr, Int32.le_refl _, c, hp⟩
  · obtain ⟨c1, c2, c3, c4⟩ := hv.2 t t1 t2
    rw [e 81 _ (by decide) (by decide), e 82 _ (by decide) (by decide)]
    by_cases q : t = s
    · subst q
      rw [e5, e6]
      refine ⟨by rw [← hb, p3]; exact nI_pos' p2, by rw [hb]; exact Int32.le_refl _, fun _ => hp, fun b' hb' _ => ?_⟩
      rcases hb' with hb' | ⟨_, hb', _⟩
      · rw [← hb]; exact (h.A r b' t hb').2.1
      · rw [hb']; exact Int32.le_refl _
    · rw [o _ _ (by omega), o _ _ (by omega)]
      refine ⟨c1, c2, c3, fun b' hb' hs => ?_⟩
      rcases hb' with hb' | ⟨_, _, hb'⟩
      · exact c4 b' hb' hs
      · exact absurd hb' q
  · rw [e 87 _ (by decide) (by decide)]; exact b1
  · rw [e 87 _ (by decide) (by decide), e 81 _ (by decide) (by decide)]; exact b2
  · rw [e 91 _ (by decide) (by decide)]; exact b3 s s1 s2
  · rw [e 87 _ (by decide) (by decide)] at hp'
    obtain ⟨d1, d2, d3⟩ := b4 hp'
    rw [e 87 _ (by decide) (by decide), e 88 _ (by decide) (by decide)]
    refine ⟨d1, fun j hj hb => by rw [e 81 _ (by decide) (by decide)]; exact d2 j hj hb, fun t t1 t2 => ?_⟩
    obtain ⟨g1, g2, g3, g4, g5⟩ := d3 t t1 t2
    rw [iPs, e 87 _ (by decide) (by decide), e 88 _ (by decide) (by decide), e 83 _ (by decide) (by decide), e 89 _ (by decide) (by decide), e 90 _ (by decide) (by decide), e 91 _ (by decide) (by decide), e 92 _ (by decide) (by decide)]
    refine ⟨g1, g2, fun j hj hbj hs b' hb2 hv2 => ?_, fun z j hj hb => Or.inl (g4 z j hj hb), g5⟩
    rcases hv2 with hv2 | ⟨z1, z2, z3⟩
    · exact g3 j hj hbj hs b' hb2 hv2
    · subst z1
      rw [z2, ← hb] at hb2
      exact (i_irr (i_lt_le hb2 b2)).elim
def gP (G : xGh) (b : Int32) (s : Nat) (c : Int32) : xGh := (fun b' s' => if b' = b ∧ s' = s then some c else G.1 b' s', G.2)
theorem Inv.prop (h : Inv B n I G) (hr : r < 5) {s e q : Nat} (hc : f_camp I r = true) (he : I 83 r = nI e) (s1 : e < s) (s2 : s ≤ e + 3) (s3 : s ≤ 24) (h91 : I 91 (25 * r + s) < 0) (hq : q ≤ n) (hm : f_maj (I 88 r) (mM I s) = true) (h89 : 0 < I 89 (25 * r + s) → nI q = I 90 (25 * r + s)) : Inv B n (x_u (x_u I 91 (25 * r + s) (nI q)) 92 (25 * r + s) (nI 0)) (gP G (I 87 r) s (nI q)) ∧ Mo n I G (x_u (x_u I 91 (25 * r + s) (nI q)) 92 (25 * r + s) (nI 0)) (gP G (I 87 r) s (nI q)) r := by
  obtain ⟨hd, hv, hP⟩ := h.R hr
  obtain ⟨b1, b2, b3, b4⟩ := hP
  rw [f_camp, Bool.and_eq_true, decide_eq_true_eq, decide_eq_true_eq] at hc
  obtain ⟨d1, d2, d3⟩ := b4 hc.1
  obtain ⟨k1, k2, k3, k4, k5⟩ := d3 s (by omega) s3
  have hn : ∀ c, ¬ G.1 (I 87 r) s = some c := fun c z => by
    obtain ⟨z1, z2⟩ := (k1 c).mp z
    rw [z2] at h91
    exact Int32.not_lt.mpr z1 h91
  have hn40 : n ≤ 40 := h.rq.1
  have e' : ∀ a i, a ≠ 91 → a ≠ 92 → x_u (x_u I 91 (25 * r + s) (nI q)) 92 (25 * r + s) (nI 0) a i = I a i := fun a i h1 h2 => by
    rw [x_u_ne _ _ (fun z => h2 z.1), x_u_ne _ _ (fun z => h1 z.1)]
  have o : ∀ a i, i ≠ 25 * r + s → x_u (x_u I 91 (25 * r + s) (nI q)) 92 (25 * r + s) (nI 0) a i = I a i := fun a i h1 => by
    rw [x_u_ne _ _ (fun z => h1 z.2), x_u_ne _ _ (fun z => h1 z.2)]
  have e1 : x_u (x_u I 91 (25 * r + s) (nI q)) 92 (25 * r + s) (nI 0) 91 (25 * r + s) = nI q := by rw [x_u_ne _ _ (by omega), x_u_eq]
  have e2 : x_u (x_u I 91 (25 * r + s) (nI q)) 92 (25 * r + s) (nI 0) 92 (25 * r + s) = nI 0 := x_u_eq _ _ _ _
  generalize hI' : x_u (x_u I 91 (25 * r + s) (nI q)) 92 (25 * r + s) (nI 0) = I' at e' o e1 e2
  have ho : Orr I I' r := fun a i _ hn => by
    by_cases h5 : a = 91 ∨ a = 92
    · exact o a i (fun q => hn (Or.inr ⟨by omega, by omega, by omega⟩))
    · exact e' a i (fun q => h5 (Or.inl q)) (fun q => h5 (Or.inr q))
  have hmo : Mo n I G I' (gP G (I 87 r) s (nI q)) r := by
    refine ho.mo (by rw [e' 81 r (by decide) (by decide)]; exact Int32.le_refl _) (fun b t c z => ?_) (fun _ _ _ z => z) (fun _ _ _ z => Or.inl z) (fun b t c z => ?_)
    · show (if b = I 87 r ∧ t = s then some (nI q) else G.1 b t) = some c
      rw [if_neg (fun y => hn c (by rw [← y.1, ← y.2]; exact z))]
      exact z
    · by_cases y : b = I 87 r ∧ t = s
      · right
        rw [y.1]
        exact d1
      · left
        have z' : (if b = I 87 r ∧ t = s then some (nI q) else G.1 b t) = some c := z
        rw [if_neg y] at z'
        exact z'
  obtain ⟨⟨f, e0, a1, a2, a3, a4, a5⟩, hpp, a7⟩ := id hd
  have ee : e = e0 := by
    rw [a2] at he
    exact ((nI_eq (by omega) (by omega)).mp he).symm
  subst ee
  have hpd : prD I (s - 3) := a5.le (by omega)
  have hmm : mM I' s = mM I s := hmo.mm h.ch h.rq (by omega) hpd
  refine ⟨h.rep ho hmo (fun _ _ _ z1 z2 => absurd z1 z2) (fun b t c z1 z2 => ?_) (Nat.le_refl _) ⟨hd.c (fun s => e' _ _ (by decide) (by decide)) (e' _ _ (by decide) (by decide)) (e' _ _ (by decide) (by decide)) (e' _ _ (by decide) (by decide)) (e' _ _ (by decide) (by decide)), ⟨by rw [e' 85 _ (by decide) (by decide)]; exact hv.1, fun t t1 t2 => ?_⟩, ?_, ?_, fun t t1 t2 => ?_, fun hp' => ?_⟩, hmo⟩
  · have z' : (if b = I 87 r ∧ t = s then some (nI q) else G.1 b t) = some c := z1
    by_cases y : b = I 87 r ∧ t = s
    · rw [if_pos y] at z'
      obtain ⟨rfl, rfl⟩ := y
      have zc := Option.some.inj z'
      subst zc
      refine ⟨hc.1, by omega, s3, ⟨q, hq, rfl⟩, hmo.pr (by omega) hpd, ?_, fun b' hb' => ?_⟩
      · rw [d1, e' 81 r (by decide) (by decide)]
        exact b2
      · by_cases hbl : I 89 (25 * r + t) < b'
        · refine Or.inr ⟨I 88 r, by rw [hmm]; exact hm, fun a ha hx => ⟨?_, fun hvv => ?_⟩⟩
          · rw [e' 81 a (by decide) (by decide)]
            exact i_lt_le hb' (d2 a ha hx)
          · exact i_irr (i_lt_le hbl (k3 a ha hx (by rw [a2]; exact (nI_ltI (by omega) (by omega)).mpr s1) b' hb' hvv))
        · have hbl' := Int32.not_lt.mp hbl
          by_cases h0 : 0 < I 89 (25 * r + t)
          · have hpc := k2.2.2 h0
            rw [← h89 h0] at hpc
            by_cases heq : b' = I 89 (25 * r + t)
            · exact Or.inl (hmo.2.1 _ _ _ (by rw [heq]; exact hpc))
            · have hlt : b' < I 89 (25 * r + t) := by
                rw [Int32.le_iff_toInt_le] at hbl'
                rw [Int32.lt_iff_toInt_lt]
                have : b'.toInt ≠ (I 89 (25 * r + t)).toInt := fun z => heq (Int32.toInt_inj.mp z)
                omega
              exact hmo.sf hmm (h.Bq _ _ _ hpc).2.2.2.2.2.2 b' hlt
          · refine Or.inr ⟨I 88 r, by rw [hmm]; exact hm, fun a ha hx => ⟨?_, fun hvv => ?_⟩⟩
            · rw [e' 81 a (by decide) (by decide)]
              exact i_lt_le hb' (d2 a ha hx)
            · obtain ⟨_, _, c', hc'⟩ := h.A a b' t hvv
              exact h0 (i_lt_le (h.Bq _ _ _ hc').1 hbl')
    · rw [if_neg y] at z'
      exact absurd z' z2
  · obtain ⟨c1, c2, c3, c4⟩ := hv.2 t t1 t2
    rw [e' 81 _ (by decide) (by decide), e' 82 _ (by decide) (by decide), e' 85 _ (by decide) (by decide), e' 86 _ (by decide) (by decide)]
    exact ⟨c1, c2, fun z => hmo.2.1 _ _ _ (c3 z), c4⟩
  · rw [e' 87 _ (by decide) (by decide)]; exact b1
  · rw [e' 87 _ (by decide) (by decide), e' 81 _ (by decide) (by decide)]; exact b2
  · by_cases y : t = s
    · subst y
      rw [e1]
      by_cases hq0 : q = 0
      · left
        rw [hq0]
        exact Int32.le_refl _
      · exact Or.inr ⟨q, by omega, hq, rfl⟩
    · rw [o _ _ (by omega)]
      exact b3 t t1 t2
  · rw [e' 87 _ (by decide) (by decide), e' 88 _ (by decide) (by decide)]
    refine ⟨d1, fun j hj hb => by rw [e' 81 _ (by decide) (by decide)]; exact d2 j hj hb, fun t t1 t2 => ?_⟩
    obtain ⟨g1, g2, g3, g4, g5⟩ := d3 t t1 t2
    rw [iPs, e' 87 _ (by decide) (by decide), e' 88 _ (by decide) (by decide), e' 83 _ (by decide) (by decide), e' 89 _ (by decide) (by decide), e' 90 _ (by decide) (by decide)]
    by_cases y : t = s
    · subst y
      rw [e1, e2]
      refine ⟨fun c => ?_, ⟨g2.1, g2.2.1, fun z => hmo.2.1 _ _ _ (g2.2.2 z)⟩, g3, fun _ j hj hb => ?_, fun _ e2 l1 l2 => ?_⟩
      · show (if I 87 r = I 87 r ∧ t = t then some (nI q) else G.1 (I 87 r) t) = some c ↔ _
        rw [if_pos ⟨rfl, rfl⟩]
        constructor
        · intro z
          have zc := Option.some.inj z
          subst zc
          exact ⟨nI_pos' (by omega), rfl⟩
        · intro z
          rw [z.2]
      · rw [show nI 0 = (0 : Int32) from rfl, b_0] at hb
        exact absurd hb (by decide)
      · rw [a2] at l2
        have := (nI_eq (by omega) (by omega)).mp l2
        omega
    · rw [o 91 _ (by omega), o 92 _ (by omega)]
      refine ⟨fun c => ?_, ⟨g2.1, g2.2.1, fun z => hmo.2.1 _ _ _ (g2.2.2 z)⟩, g3, g4, g5⟩
      show (if I 87 r = I 87 r ∧ t = s then some (nI q) else G.1 (I 87 r) t) = some c ↔ _
      rw [if_neg (fun z => y z.2)]
      exact g1 c
theorem Inv.wtr (h : Inv B n I G) (hr : r < 5) {s : Nat} {y : Int32} (hs : s < 25) (hy : 0 < I 87 r → 0 ≤ I 91 (25 * r + s) → ∀ j, j < 5 → bt y j = true → G.2 j (I 87 r) s) : Inv B n (x_u I 92 (25 * r + s) y) G ∧ Mo n I G (x_u I 92 (25 * r + s) y) G r := by
  have e : ∀ a i, a ≠ 92 → x_u I 92 (25 * r + s) y a i = I a i := fun a i ha => x_u_ne _ _ (fun q => ha q.1)
  obtain ⟨hd, hv, hP⟩ := h.R hr
  obtain ⟨b1, b2, b3, b4⟩ := hP
  refine h.rep0 (I' := x_u I 92 (25 * r + s) y) (fun a i _ hn => x_u_ne _ _ (fun q => hn (Or.inr ⟨by omega, by omega, by omega⟩))) (by rw [e 81 _ (by decide)]; exact Int32.le_refl _) (Nat.le_refl _) ⟨hd.c (fun s => e _ _ (by decide)) (e _ _ (by decide)) (e _ _ (by decide)) (e _ _ (by decide)) (e _ _ (by decide)), hv.c (e _ _ (by decide)) (e _ _ (by decide)) (fun s _ _ => ⟨e _ _ (by decide), e _ _ (by decide)⟩), by rw [e 87 _ (by decide)]; exact b1, by rw [e 87 _ (by decide), e 81 _ (by decide)]; exact b2, fun s s1 s2 => by rw [e 91 _ (by decide)]; exact b3 s s1 s2, fun hp => ?_⟩
  rw [e 87 _ (by decide)] at hp
  obtain ⟨d1, d2, d3⟩ := b4 hp
  rw [e 87 _ (by decide), e 88 _ (by decide)]
  refine ⟨d1, fun j hj hb => by rw [e 81 _ (by decide)]; exact d2 j hj hb, fun t t1 t2 => ?_⟩
  obtain ⟨g1, g2, g3, g4, g5⟩ := d3 t t1 t2
  rw [iPs, e 87 _ (by decide), e 88 _ (by decide), e 83 _ (by decide), e 89 _ (by decide), e 90 _ (by decide), e 91 _ (by decide)]
  refine ⟨g1, g2, g3, fun z j hj hb => ?_, g5⟩
  by_cases q : t = s
  · subst q
    rw [x_u_eq] at hb
    exact hy hp z j hj hb
  · rw [x_u_ne _ _ (by omega)] at hb
    exact g4 z j hj hb
theorem Inv.know (h : Inv B n I G) (hr : r < 5) {y : Int32} (hy : ∀ s, 1 ≤ s → s ≤ 24 → bt y s = true → 0 ≤ I 80 s) : Inv B n (x_u I 84 r y) G ∧ Mo n I G (x_u I 84 r y) G r := by
  have e : ∀ a i, a ≠ 84 → x_u I 84 r y a i = I a i := fun a i ha => x_u_ne _ _ (fun q => ha q.1)
  obtain ⟨⟨⟨f, g, a1, a2, a3, a4, a5⟩, ⟨p, p1, p2, p3⟩, a7⟩, hv, hP⟩ := h.R hr
  refine h.rep0 (I' := x_u I 84 r y) (fun a i _ hn => x_u_ne _ _ (fun q => hn (Or.inl ⟨by omega, q.2⟩))) (by rw [e 81 _ (by decide)]; exact Int32.le_refl _) (Nat.le_refl _) ⟨⟨⟨f, g, (e _ _ (by decide)).trans a1, (e _ _ (by decide)).trans a2, a3, a4, fun s s1 s2 => by rw [e 80 s (by decide)]; exact a5 s s1 s2⟩, ⟨p, p1, p2, (e _ _ (by decide)).trans p3⟩, fun s s1 s2 s3 => ?_⟩, hv.c (e _ _ (by decide)) (e _ _ (by decide)) (fun s _ _ => ⟨e _ _ (by decide), e _ _ (by decide)⟩), hP.c (fun j => e _ _ (by decide)) (e _ _ (by decide)) (e _ _ (by decide)) (e _ _ (by decide)) (fun s _ _ => ⟨e _ _ (by decide), e _ _ (by decide), e _ _ (by decide), e _ _ (by decide)⟩)⟩
  rw [x_u_eq] at s3
  rw [e 80 s (by decide)]
  exact hy s s1 s2 s3
theorem Inv.pres (h : Inv B n I G) (hr : r < 5) {f e e' : Nat} (hf : I 82 r = nI f) (he : I 83 r = nI e) (he24 : e ≤ 24) (h1 : f ≤ e') (h2 : e' ≤ 24) (hp : prD I e') (hc : 0 < I 87 r → e ≤ e') : Inv B n (x_u I 83 r (nI e')) G ∧ Mo n I G (x_u I 83 r (nI e')) G r := by
  have u : ∀ a i, a ≠ 83 → x_u I 83 r (nI e') a i = I a i := fun a i ha => x_u_ne _ _ (fun q => ha q.1)
  obtain ⟨⟨⟨f0, g, a1, a2, a3, a4, a5⟩, ⟨p, p1, p2, p3⟩, a7⟩, hv, b1, b2, b3, b4⟩ := h.R hr
  have eg : e = g := by
    rw [a2] at he
    exact ((nI_eq (by omega) (by omega)).mp he).symm
  refine h.rep0 (I' := x_u I 83 r (nI e')) (fun a i _ hn => x_u_ne _ _ (fun q => hn (Or.inl ⟨by omega, q.2⟩))) (by rw [u 81 _ (by decide)]; exact Int32.le_refl _) (Nat.le_refl _) ⟨⟨⟨f, e', (u _ _ (by decide)).trans hf, x_u_eq _ _ _ _, h1, h2, fun s s1 s2 => by rw [u 80 s (by decide)]; exact hp s s1 s2⟩, ⟨p, p1, p2, (u _ _ (by decide)).trans p3⟩, fun s s1 s2 s3 => ?_⟩, hv.c (u _ _ (by decide)) (u _ _ (by decide)) (fun s _ _ => ⟨u _ _ (by decide), u _ _ (by decide)⟩), by rw [u 87 _ (by decide)]; exact b1, by rw [u 87 _ (by decide), u 81 _ (by decide)]; exact b2, fun s s1 s2 => by rw [u 91 _ (by decide)]; exact b3 s s1 s2, fun hp' => ?_⟩
  · rw [u 84 _ (by decide)] at s3
    rw [u 80 s (by decide)]
    exact a7 s s1 s2 s3
  · rw [u 87 _ (by decide)] at hp'
    obtain ⟨d1, d2, d3⟩ := b4 hp'
    rw [u 87 _ (by decide), u 88 _ (by decide)]
    refine ⟨d1, fun j hj hb => by rw [u 81 _ (by decide)]; exact d2 j hj hb, fun t t1 t2 => ?_⟩
    obtain ⟨g1, g2, g3, g4, g5⟩ := d3 t t1 t2
    rw [iPs, u 87 _ (by decide), u 88 _ (by decide), x_u_eq, u 89 _ (by decide), u 90 _ (by decide), u 91 _ (by decide), u 92 _ (by decide)]
    refine ⟨g1, g2, fun j hj hb hs => g3 j hj hb ?_, g4, fun z e2 l1 l2 => ?_⟩
    · have := (nI_ltI (a := e') (b := t) (by omega) (by omega)).mp hs
      rw [a2]
      exact (nI_ltI (by omega) (by omega)).mpr (by have := hc hp'; omega)
    · have := (nI_eq (by omega) (by omega)).mp l2
      have := hc hp'
      have := g5 z e he24 he
      omega
theorem Inv.snap (h : Inv B n I G) (hr : r < 5) {f e f' : Nat} (hf : I 82 r = nI f) (he : I 83 r = nI e) (hf2 : f ≤ 24) (h1 : f ≤ f') (h2 : f' ≤ e) (h3 : e ≤ 24) : Inv B n (x_u I 82 r (nI f')) G ∧ Mo n I G (x_u I 82 r (nI f')) G r := by
  have u : ∀ a i, a ≠ 82 → x_u I 82 r (nI f') a i = I a i := fun a i ha => x_u_ne _ _ (fun q => ha q.1)
  obtain ⟨⟨⟨f0, g, a1, a2, a3, a4, a5⟩, ⟨p, p1, p2, p3⟩, a7⟩, hv, hP⟩ := h.R hr
  have eg : e = g := by
    rw [a2] at he
    exact ((nI_eq (by omega) (by omega)).mp he).symm
  subst eg
  refine h.rep0 (I' := x_u I 82 r (nI f')) (fun a i _ hn => x_u_ne _ _ (fun q => hn (Or.inl ⟨by omega, q.2⟩))) (by rw [u 81 _ (by decide)]; exact Int32.le_refl _) (Nat.le_refl _) ⟨⟨⟨f', e, x_u_eq _ _ _ _, (u _ _ (by decide)).trans he, h2, h3, fun s s1 s2 => by rw [u 80 s (by decide)]; exact a5 s s1 s2⟩, ⟨p, p1, p2, (u _ _ (by decide)).trans p3⟩, fun s s1 s2 s3 => ?_⟩, ⟨by rw [u 85 _ (by decide)]; exact hv.1, fun t t1 t2 => ?_⟩, hP.c (fun j => u _ _ (by decide)) (u _ _ (by decide)) (u _ _ (by decide)) (u _ _ (by decide)) (fun s _ _ => ⟨u _ _ (by decide), u _ _ (by decide), u _ _ (by decide), u _ _ (by decide)⟩)⟩
  · rw [u 84 _ (by decide)] at s3
    rw [u 80 s (by decide)]
    exact a7 s s1 s2 s3
  · obtain ⟨c1, c2, c3, c4⟩ := hv.2 t t1 t2
    rw [u 81 _ (by decide), u 85 _ (by decide), u 86 _ (by decide), x_u_eq]
    refine ⟨c1, c2, c3, fun b hb hs => c4 b hb ?_⟩
    have := (nI_ltI (a := f') (b := t) (by omega) (by omega)).mp hs
    rw [hf]
    exact (nI_ltI (by omega) (by omega)).mpr (by omega)
/-- what forgetting does -/
theorem f_fg_at (I : xI) (r : Nat) : ∀ m, m ≤ 24 → (∀ a i, (a = 85 ∨ a = 86) → (f_fg I r m).1 a i = if 25 * r + 1 ≤ i ∧ i ≤ 25 * r + m then 0 else I a i) ∧ (∀ a i, a ≠ 85 → a ≠ 86 → a ≠ 84 ∨ i ≠ r → (f_fg I r m).1 a i = I a i) ∧ ∀ s, s < 32 → bt ((f_fg I r m).1 84 r) s = (bt (I 84 r) s && !(decide (1 ≤ s) && decide (s ≤ m))) := by
  intro m
  induction m with
  | zero =>
    intro _
    refine ⟨fun a i _ => ?_, fun _ _ _ _ _ => rfl, fun s hs => ?_⟩
    · rw [if_neg (by omega)]
      rfl
    · have : (decide (1 ≤ s) && decide (s ≤ 0)) = false := by
        by_cases h : 1 ≤ s
        · rw [decide_eq_false (p := s ≤ 0) (by omega), Bool.and_false]
        · rw [decide_eq_false h, Bool.false_and]
      rw [this]
      simp [f_fg]
  | succ m ih =>
    intro hm
    obtain ⟨h1, h2, h3⟩ := ih (by omega)
    refine ⟨fun a i ha => ?_, fun a i a1 a2 a3 => ?_, fun s hs => ?_⟩
    · simp only [f_fg]
      rw [x_u_ne _ _ (by omega)]
      rcases ha with rfl | rfl
      · rw [x_u_ne _ _ (by omega)]
        by_cases e : i = 25 * r + (m + 1)
        · subst e
          rw [x_u_eq, if_pos (by omega)]
          rfl
        · rw [x_u_ne _ _ (by omega), h1 85 i (Or.inl rfl)]
          by_cases q : 25 * r + 1 ≤ i ∧ i ≤ 25 * r + m
          · rw [if_pos q, if_pos (by omega)]
          · rw [if_neg q, if_neg (by omega)]
      · by_cases e : i = 25 * r + (m + 1)
        · subst e
          rw [x_u_eq, if_pos (by omega)]
          rfl
        · rw [x_u_ne _ _ (by omega), x_u_ne _ _ (by omega), h1 86 i (Or.inr rfl)]
          by_cases q : 25 * r + 1 ≤ i ∧ i ≤ 25 * r + m
          · rw [if_pos q, if_pos (by omega)]
          · rw [if_neg q, if_neg (by omega)]
    · simp only [f_fg]
      rw [x_u_ne _ _ (by omega), x_u_ne _ _ (by omega), x_u_ne _ _ (by omega)]
      exact h2 a i a1 a2 a3
    · simp only [f_fg]
      rw [x_u_eq, bt_an1 (by omega) hs, h3 s hs]
      by_cases e : s = m + 1
      · subst e
        rw [decide_eq_true (p := m + 1 = m + 1) rfl, decide_eq_true (p := m + 1 ≤ m + 1) (by omega), decide_eq_true (p := 1 ≤ m + 1) (by omega)]
        simp
      · rw [decide_eq_false e]
        by_cases q : s ≤ m
        · rw [decide_eq_true q, decide_eq_true (p := s ≤ m + 1) (by omega)]
          simp
        · rw [decide_eq_false q, decide_eq_false (p := s ≤ m + 1) (by omega)]
          simp
theorem Inv.fg (h : Inv B n I G) (hr : r < 5) {f m : Nat} (hf : I 82 r = nI f) (hm : m ≤ f) (hf2 : f ≤ 24) : Inv B n (f_fg I r m).1 G ∧ Mo n I G (f_fg I r m).1 G r := by
  obtain ⟨h1, h2, h3⟩ := f_fg_at I r m (by omega)
  generalize (f_fg I r m).1 = I' at h1 h2 h3
  have u : ∀ a i, a ≠ 84 → a ≠ 85 → a ≠ 86 → I' a i = I a i := fun a i x y z => h2 a i y z (Or.inl x)
  obtain ⟨⟨⟨f0, g, a1, a2, a3, a4, a5⟩, ⟨p, p1, p2, p3⟩, a7⟩, hv, hP⟩ := h.R hr
  refine h.rep0 (fun a i _ hn => ?_) (by rw [u 81 _ (by decide) (by decide) (by decide)]; exact Int32.le_refl _) (Nat.le_refl _) ⟨⟨⟨f0, g, (u _ _ (by decide) (by decide) (by decide)).trans a1, (u _ _ (by decide) (by decide) (by decide)).trans a2, a3, a4, fun s s1 s2 => by rw [u 80 s (by decide) (by decide) (by decide)]; exact a5 s s1 s2⟩, ⟨p, p1, p2, (u _ _ (by decide) (by decide) (by decide)).trans p3⟩, fun s s1 s2 s3 => ?_⟩, ⟨by rw [h1 85 _ (Or.inl rfl), if_neg (by omega)]; exact hv.1, fun t t1 t2 => ?_⟩, hP.c (fun j => u _ _ (by decide) (by decide) (by decide)) (u _ _ (by decide) (by decide) (by decide)) (u _ _ (by decide) (by decide) (by decide)) (u _ _ (by decide) (by decide) (by decide)) (fun s _ _ => ⟨u _ _ (by decide) (by decide) (by decide), u _ _ (by decide) (by decide) (by decide), u _ _ (by decide) (by decide) (by decide), u _ _ (by decide) (by decide) (by decide)⟩)⟩
  · by_cases q : a = 85 ∨ a = 86
    · rw [h1 a i q, if_neg (fun z => hn (Or.inr ⟨by omega, by omega, by omega⟩))]
    · exact h2 a i (fun z => q (Or.inl z)) (fun z => q (Or.inr z)) (by
        by_cases y : a = 84
        · right
          exact fun z => hn (Or.inl ⟨by omega, z⟩)
        · exact Or.inl y)
  · rw [h3 s (by omega), Bool.and_eq_true] at s3
    rw [u 80 s (by decide) (by decide) (by decide)]
    exact a7 s s1 s2 s3.1
  · obtain ⟨c1, c2, c3, c4⟩ := hv.2 t t1 t2
    rw [u 81 _ (by decide) (by decide) (by decide), u 82 _ (by decide) (by decide) (by decide), h1 85 _ (Or.inl rfl), h1 86 _ (Or.inr rfl)]
    by_cases q : 25 * r + 1 ≤ 25 * r + t ∧ 25 * r + t ≤ 25 * r + m
    · rw [if_pos q, if_pos q]
      refine ⟨Int32.le_refl _, by rw [p3]; exact nI_pos' p2, fun z => (i_irr z).elim, fun b hb hs => ?_⟩
      rw [hf] at hs
      have := (nI_ltI (by omega) (by omega)).mp hs
      omega
    · rw [if_neg q, if_neg q]
      exact ⟨c1, c2, c3, c4⟩
theorem Inv.cmp0 (h : Inv B n I G) (hr : r < 5) : Inv B n (x_u I 87 r (nI 0)) G ∧ Mo n I G (x_u I 87 r (nI 0)) G r := by
  have u : ∀ a i, a ≠ 87 → x_u I 87 r (nI 0) a i = I a i := fun a i ha => x_u_ne _ _ (fun q => ha q.1)
  obtain ⟨hd, hv, b1, b2, b3, b4⟩ := h.R hr
  obtain ⟨p, p1, p2, p3⟩ := hd.2.1
  refine h.rep0 (I' := x_u I 87 r (nI 0)) (fun a i _ hn => x_u_ne _ _ (fun q => hn (Or.inl ⟨by omega, q.2⟩))) (by rw [u 81 _ (by decide)]; exact Int32.le_refl _) (Nat.le_refl _) ⟨hd.c (fun s => u _ _ (by decide)) (u _ _ (by decide)) (u _ _ (by decide)) (u _ _ (by decide)) (u _ _ (by decide)), hv.c (u _ _ (by decide)) (u _ _ (by decide)) (fun s _ _ => ⟨u _ _ (by decide), u _ _ (by decide)⟩), by rw [x_u_eq]; exact Int32.le_refl _, by rw [x_u_eq, u 81 _ (by decide), p3]; exact nI_pos' p2, fun s s1 s2 => by rw [u 91 _ (by decide)]; exact b3 s s1 s2, fun hp => ?_⟩
  rw [x_u_eq] at hp
  exact (i_irr hp).elim
theorem f_bg_at (I : xI) (r b : Nat) : f_bg I r b 87 r = nI b ∧ f_bg I r b 81 r = nI b ∧ f_bg I r b 88 r = nI 1 <<< (nI r &&& 31) ∧ (∀ s, s < 25 → f_bg I r b 89 (25 * r + s) = I 85 (25 * r + s) ∧ f_bg I r b 90 (25 * r + s) = I 86 (25 * r + s) ∧ f_bg I r b 91 (25 * r + s) = -1 ∧ f_bg I r b 92 (25 * r + s) = nI 0) ∧ ∀ a i, ((a = 81 ∨ a = 87 ∨ a = 88) ∧ i ≠ r) ∨ ((a = 89 ∨ a = 90 ∨ a = 91 ∨ a = 92) ∧ (i < 25 * r ∨ 25 * r + 25 ≤ i)) ∨ (a ≠ 81 ∧ a ≠ 87 ∧ a ≠ 88 ∧ a ≠ 89 ∧ a ≠ 90 ∧ a ≠ 91 ∧ a ≠ 92) → f_bg I r b a i = I a i := by
  refine ⟨?_, ?_, ?_, fun s hs => ⟨?_, ?_, ?_, ?_⟩, fun a i h => ?_⟩
  · simp [f_bg, f_bgL, f_bg0, f_fillF, x_u]
  · simp [f_bg, f_bgL, f_bg0, f_fillF, x_u]
  · simp [f_bg, f_bgL, f_bg0, f_fillF, x_u]
  · simp [f_bg, f_bgL, f_fillF, hs]
  · simp [f_bg, f_bgL, f_fillF, hs]
  · simp [f_bg, f_bgL, f_fillF, hs]
  · simp [f_bg, f_bgL, f_fillF, hs]
  · simp only [f_bg, f_bgL, f_fillF]
    rw [if_neg (by omega), if_neg (by omega), if_neg (by omega), if_neg (by omega), f_bg0, x_u_ne _ _ (by omega), x_u_ne _ _ (by omega), x_u_ne _ _ (by omega)]
theorem Inv.bg (h : Inv B n I G) (hr : r < 5) {p b B' : Nat} (hp : I 81 r = nI p) (hpb : p < b) (hb : b < 2 ^ 31) (hB : b ≤ B') (hBB : B ≤ B') (hw : b % 5 = r) : Inv B' n (f_bg I r b) G ∧ Mo n I G (f_bg I r b) G r := by
  obtain ⟨e7, e1, e8, e9, u⟩ := f_bg_at I r b
  generalize f_bg I r b = I' at e7 e1 e8 e9 u
  obtain ⟨⟨⟨f, g, a1, a2, a3, a4, a5⟩, _, a7⟩, hv, b1, b2, b3, b4⟩ := h.R hr
  have hle : I 81 r ≤ I' 81 r := by
    rw [hp, e1]
    exact (nI_leI (by omega) hb).mpr (by omega)
  have hlt : I 81 r < nI b := by
    rw [hp]
    exact (nI_ltI (by omega) hb).mpr hpb
  have hown : own (nI b) = r := by rw [own, nI_clamp hb, hw]
  have hnone : ∀ s c, ¬ G.1 (nI b) s = some c := fun s c z => by
    have z1 := (h.Bq _ _ _ z).2.2.2.2.2.1
    rw [hown] at z1
    exact i_irr (i_lt_le hlt z1)
  refine h.rep0 (fun a i _ hn => u a i ?_) hle hBB ⟨⟨⟨f, g, (u _ _ (by omega)).trans a1, (u _ _ (by omega)).trans a2, a3, a4, fun s s1 s2 => by rw [u 80 s (by omega)]; exact a5 s s1 s2⟩, ⟨b, hB, hb, e1⟩, fun s s1 s2 s3 => ?_⟩, ⟨by rw [u 85 _ (by omega)]; exact hv.1, fun t t1 t2 => ?_⟩, ?_, ?_, fun s s1 s2 => ?_, fun hp' => ?_⟩
  · rw [rc] at hn
    omega
  · rw [u 84 _ (by omega)] at s3
    rw [u 80 s (by omega)]
    exact a7 s s1 s2 s3
  · obtain ⟨c1, c2, c3, c4⟩ := hv.2 t t1 t2
    rw [u 85 _ (by omega), u 86 _ (by omega), u 82 _ (by omega)]
    exact ⟨c1, i_tr c2 hle, c3, c4⟩
  · rw [e7]
    exact nI_pos' hb
  · rw [e7, e1]
    exact Int32.le_refl _
  · left
    rw [(e9 s (by omega)).2.2.1]
    decide
  · rw [e7, e8]
    refine ⟨hown, fun j hj hbj => ?_, fun s s1 s2 => ?_⟩
    · rw [bt_sh (by omega) (by omega), decide_eq_true_eq] at hbj
      subst hbj
      rw [e1]
      exact Int32.le_refl _
    · obtain ⟨k1, k2, k3, k4⟩ := e9 s (by omega)
      obtain ⟨c1, c2, c3, c4⟩ := hv.2 s s1 s2
      rw [iPs, e7, e8, k1, k2, k3, k4, u 83 _ (by omega)]
      refine ⟨fun c => ⟨fun z => absurd z (hnone s c), fun z => ?_⟩, ⟨c1, i_llt (i_le_lt c2 hlt), c3⟩, fun j hj hbj hs b' _ hv2 => ?_, fun z => ?_, fun z => absurd m1_lt (Int32.not_lt.mpr z)⟩
      · rw [← z.2] at z
        exact absurd m1_lt (Int32.not_lt.mpr z.1)
      · rw [bt_sh (by omega) (by omega), decide_eq_true_eq] at hbj
        subst hbj
        refine c4 b' hv2 ?_
        rw [a2] at hs
        have := (nI_ltI (by omega) (by omega)).mp hs
        rw [a1]
        exact (nI_ltI (by omega) (by omega)).mpr (by omega)
      · exact absurd m1_lt (Int32.not_lt.mpr z)
theorem f_mg_at (I : xI) (r : Nat) : ∀ m, m ≤ 24 → (∀ a i, (a = 89 ∨ a = 90) → ¬ (25 * r + 1 ≤ i ∧ i ≤ 25 * r + m) → f_mg I r m a i = I a i) ∧ (∀ s, 1 ≤ s → s ≤ m → f_mg I r m 89 (25 * r + s) = (if I 89 (25 * r + s) < I 102 s then I 102 s else I 89 (25 * r + s)) ∧ f_mg I r m 90 (25 * r + s) = (if I 89 (25 * r + s) < I 102 s then I 103 s else I 90 (25 * r + s))) ∧ ∀ a i, a ≠ 89 ∧ a ≠ 90 → f_mg I r m a i = I a i := by
  intro m
  induction m with
  | zero => intro _; exact ⟨fun _ _ _ _ => rfl, fun s h1 h2 => by omega, fun _ _ _ => rfl⟩
  | succ m ih =>
    intro hm
    obtain ⟨h1, h2, h3⟩ := ih (by omega)
    have e9 : f_mg I r m 89 (25 * r + (m + 1)) = I 89 (25 * r + (m + 1)) := h1 _ _ (Or.inl rfl) (by omega)
    have e0 : f_mg I r m 90 (25 * r + (m + 1)) = I 90 (25 * r + (m + 1)) := h1 _ _ (Or.inr rfl) (by omega)
    have e2 : f_mg I r m 102 (m + 1) = I 102 (m + 1) := h3 _ _ (by decide)
    have e3 : f_mg I r m 103 (m + 1) = I 103 (m + 1) := h3 _ _ (by decide)
    simp only [f_mg, e9, e2, e3]
    by_cases hlt : I 89 (25 * r + (m + 1)) < I 102 (m + 1)
    · simp only [if_pos hlt]
      refine ⟨fun a i ha hi => ?_, fun s s1 s2 => ?_, fun a i ha => ?_⟩
      · rw [x_u_ne _ _ (by omega), x_u_ne _ _ (by omega)]
        exact h1 a i ha (by omega)
      · by_cases e : s = m + 1
        · subst e
          rw [x_u_ne _ _ (by omega), x_u_eq, x_u_eq, if_pos hlt, if_pos hlt]
          exact ⟨rfl, rfl⟩
        · rw [x_u_ne _ _ (by omega), x_u_ne _ _ (by omega), x_u_ne _ _ (by omega), x_u_ne _ _ (by omega)]
          exact h2 s s1 (by omega)
      · rw [x_u_ne _ _ (by omega), x_u_ne _ _ (by omega)]
        exact h3 a i ha
    · simp only [if_neg hlt]
      refine ⟨fun a i ha hi => h1 a i ha (by omega), fun s s1 s2 => ?_, h3⟩
      by_cases e : s = m + 1
      · subst e
        rw [if_neg hlt, if_neg hlt]
        exact ⟨e9, e0⟩
      · exact h2 s s1 (by omega)
theorem Inv.sup (h : Inv B n I G) (hr : r < 5) {j f e : Nat} (hj : j < 5) (he : I 83 r = nI e) (he2 : e ≤ 24) (hf : f ≤ e) (hb : I 87 r ≤ I 81 j) (hm : ∀ s, 1 ≤ s → s ≤ 24 → 0 ≤ I 102 s ∧ I 102 s ≤ I 87 r ∧ (0 < I 102 s → G.1 (I 102 s) s = some (I 103 s)) ∧ (f < s → ∀ b', b' < I 87 r → G.2 j b' s → b' ≤ I 102 s)) : Inv B n (f_mg (x_u I 88 r (I 88 r ||| (nI 1 <<< (nI j &&& 31)))) r 24) G ∧ Mo n I G (f_mg (x_u I 88 r (I 88 r ||| (nI 1 <<< (nI j &&& 31)))) r 24) G r := by
  obtain ⟨m1, m2, m3⟩ := f_mg_at (x_u I 88 r (I 88 r ||| (nI 1 <<< (nI j &&& 31)))) r 24 (Nat.le_refl _)
  have v : ∀ a i, a ≠ 88 → x_u I 88 r (I 88 r ||| (nI 1 <<< (nI j &&& 31))) a i = I a i := fun a i ha => x_u_ne _ _ (fun q => ha q.1)
  have v8 : x_u I 88 r (I 88 r ||| (nI 1 <<< (nI j &&& 31))) 88 r = I 88 r ||| (nI 1 <<< (nI j &&& 31)) := x_u_eq _ _ _ _
  have vo : ∀ i, i ≠ r → x_u I 88 r (I 88 r ||| (nI 1 <<< (nI j &&& 31))) 88 i = I 88 i := fun i hi => x_u_ne _ _ (fun q => hi q.2)
  simp only [v 89 _ (by decide), v 90 _ (by decide), v 102 _ (by decide), v 103 _ (by decide)] at m2
  generalize f_mg (x_u I 88 r (I 88 r ||| (nI 1 <<< (nI j &&& 31)))) r 24 = I' at m1 m2 m3
  have u : ∀ a i, a ≠ 88 → a ≠ 89 → a ≠ 90 → I' a i = I a i := fun a i x y z => (m3 a i ⟨y, z⟩).trans (v a i x)
  have u8 : I' 88 r = I 88 r ||| (nI 1 <<< (nI j &&& 31)) := (m3 88 r (by decide)).trans v8
  obtain ⟨hd, hv, b1, b2, b3, b4⟩ := h.R hr
  refine h.rep0 (fun a i _ hn => ?_) (by rw [u 81 _ (by decide) (by decide) (by decide)]; exact Int32.le_refl _) (Nat.le_refl _) ⟨hd.c (fun s => u _ _ (by decide) (by decide) (by decide)) (u _ _ (by decide) (by decide) (by decide)) (u _ _ (by decide) (by decide) (by decide)) (u _ _ (by decide) (by decide) (by decide)) (u _ _ (by decide) (by decide) (by decide)), hv.c (u _ _ (by decide) (by decide) (by decide)) (u _ _ (by decide) (by decide) (by decide)) (fun s _ _ => ⟨u _ _ (by decide) (by decide) (by decide), u _ _ (by decide) (by decide) (by decide)⟩), by rw [u 87 _ (by decide) (by decide) (by decide)]; exact b1, by rw [u 87 _ (by decide) (by decide) (by decide), u 81 _ (by decide) (by decide) (by decide)]; exact b2, fun s s1 s2 => by rw [u 91 _ (by decide) (by decide) (by decide)]; exact b3 s s1 s2, fun hp => ?_⟩
  · by_cases q8 : a = 88
    · subst q8
      exact (m3 88 i (by decide)).trans (vo i (fun z => hn (Or.inl ⟨by omega, z⟩)))
    · by_cases q9 : a = 89 ∨ a = 90
      · exact (m1 a i q9 (fun z => hn (Or.inr ⟨by omega, by omega, by omega⟩))).trans (v a i q8)
      · exact u a i q8 (fun z => q9 (Or.inl z)) (fun z => q9 (Or.inr z))
  · rw [u 87 _ (by decide) (by decide) (by decide)] at hp
    obtain ⟨d1, d2, d3⟩ := b4 hp
    rw [u 87 _ (by decide) (by decide) (by decide), u8]
    refine ⟨d1, fun i hi hbi => ?_, fun s s1 s2 => ?_⟩
    · rw [u 81 _ (by decide) (by decide) (by decide)]
      rw [bt_or1 (by omega) (by omega), Bool.or_eq_true, decide_eq_true_eq] at hbi
      rcases hbi with z | z
      · exact d2 i hi z
      · subst z
        exact hb
    · obtain ⟨g1, g2, g3, g4, g5⟩ := d3 s s1 s2
      obtain ⟨k1, k2⟩ := m2 s s1 s2
      obtain ⟨l1, l2, l3, l4⟩ := hm s s1 s2
      rw [iPs, u 87 _ (by decide) (by decide) (by decide), u8, u 83 _ (by decide) (by decide) (by decide), u 91 _ (by decide) (by decide) (by decide), u 92 _ (by decide) (by decide) (by decide), k1, k2]
      have hmx : I 89 (25 * r + s) ≤ (if I 89 (25 * r + s) < I 102 s then I 102 s else I 89 (25 * r + s)) ∧ I 102 s ≤ (if I 89 (25 * r + s) < I 102 s then I 102 s else I 89 (25 * r + s)) := by
        split
        · rename_i z
          exact ⟨i_llt z, Int32.le_refl _⟩
        · rename_i z
          exact ⟨Int32.le_refl _, Int32.not_lt.mp z⟩
      refine ⟨g1, ?_, fun i hi hbi hs b' hb' hv' => ?_, g4, g5⟩
      · split
        · exact ⟨l1, l2, l3⟩
        · exact g2
      · rw [bt_or1 (by omega) (by omega), Bool.or_eq_true, decide_eq_true_eq] at hbi
        rcases hbi with z | z
        · exact i_tr (g3 i hi z hs b' hb' hv') hmx.1
        · subst z
          rw [he] at hs
          have := (nI_ltI (by omega) (by omega)).mp hs
          exact i_tr (l4 (by omega) b' hb' hv') hmx.2
theorem Inv.choose (h : Inv B n I G) {s : Nat} {b c x : Int32} (h80 : ¬ 0 ≤ I 80 s) (hp : G.1 b s = some c) (hx : f_maj x (mM I s) = true) (hv : ∀ a, a < 5 → bt x a = true → G.2 a b s) : Inv B n (x_u I 80 s c) G ∧ Mo n I G (x_u I 80 s c) G 5 := by
  have u : ∀ a i, a ≠ 80 → x_u I 80 s c a i = I a i := fun a i ha => x_u_ne _ _ (fun q => ha q.1)
  obtain ⟨p1, p2, p3, ⟨q, p4, p5⟩, p6, p7, p8⟩ := h.Bq _ _ _ hp
  have hmo : Mo n I G (x_u I 80 s c) G 5 := ⟨fun a _ => by rw [u 81 a (by decide)]; exact Int32.le_refl _, fun _ _ _ z => z, fun _ _ _ z => z, fun _ _ _ z => Or.inl z, fun _ _ _ z => Or.inl z, fun t _ _ t3 => x_u_ne _ _ (fun z => h80 (by rw [← z.2]; exact t3)), fun q _ _ => ⟨u _ _ (by decide), u _ _ (by decide), u _ _ (by decide)⟩, fun r' _ _ => ⟨u _ _ (by decide), u _ _ (by decide), u _ _ (by decide), u _ _ (by decide), u _ _ (by decide), u _ _ (by decide), fun s _ => ⟨u _ _ (by decide), u _ _ (by decide), u _ _ (by decide), u _ _ (by decide), u _ _ (by decide), u _ _ (by decide)⟩⟩⟩
  obtain ⟨a1, ⟨a2, a3⟩, a4, a5, a6⟩ := h.1
  refine ⟨h.step hmo ⟨(u _ _ (by decide)).trans a1, ⟨a2, fun q q1 q2 => by rw [u 75 _ (by decide), u 76 _ (by decide), u 77 _ (by decide)]; exact a3 q q1 q2⟩, fun t t1 t2 => ?_, f_wok_eq (u _ _ (by decide)) a5, fun q hq => by rw [u 76 _ (by decide)]; exact a6 q hq⟩ (Nat.le_refl _) (Nat.le_refl _) (fun _ _ _ z1 z2 => absurd z1 z2) (fun _ _ _ z1 z2 => absurd z1 z2) (fun t t1 t2 t3 t4 => ?_) (fun z => absurd z (by decide)) (fun i hi => hmo.ms (Nat.le_refl _) (mgE.of (fun a i h1 h2 => u a i (by omega)) i) (h.2.2.2.2.2 i (by rw [f_w_eq (u 74 20 (by decide))] at hi; exact hi))), hmo⟩
  · by_cases e : t = s
    · subst e
      rw [x_u_eq]
      exact Or.inr ⟨q, p4, p5⟩
    · rw [x_u_ne _ _ (by omega)]
      exact a4 t t1 t2
  · by_cases e : t = s
    · subst e
      rw [x_u_eq, hmo.mm h.ch h.rq (by omega) p6]
      exact ⟨b, x, hp, hx, hv⟩
    · rw [x_u_ne _ _ (by omega)] at t4
      exact absurd t4 t3
/-- two choices agree -/
theorem Inv.safe (h : Inv B n I G) {s : Nat} {b c x : Int32} (h80 : 0 ≤ I 80 s) (hp : G.1 b s = some c) (hx : f_maj x (mM I s) = true) (hv : ∀ a, a < 5 → bt x a = true → G.2 a b s) : c = I 80 s := by
  obtain ⟨p1, p2, p3, p4, p6, p7, p8⟩ := h.Bq _ _ _ hp
  obtain ⟨b', y, q1, q2, q3⟩ := h.2.2.2.1 s p2 p3 h80
  obtain ⟨r1, r2, r3, r4, r6, r7, r8⟩ := h.Bq _ _ _ q1
  obtain ⟨m, m1, m2, m3⟩ := mM_ok h.rq h.ch (by omega) p6
  by_cases e : b = b'
  · subst e
    rw [hp] at q1
    exact Option.some.inj q1
  · by_cases hlt : b' < b
    · rcases p8 b' hlt with z | ⟨w, w1, w2⟩
      · rw [q1] at z
        exact (Option.some.inj z).symm
      · rw [m2] at w1 q2
        obtain ⟨j, j1, j2, j3⟩ := f_maj_i m1 w1 q2
        exact absurd (q3 j j1 j3) (w2 j j1 j2).2
    · have hlt' : b < b' := by
        rw [Int32.lt_iff_toInt_lt] at hlt ⊢
        have : b.toInt ≠ b'.toInt := fun z => e (Int32.toInt_inj.mp z)
        omega
      rcases r8 b hlt' with z | ⟨w, w1, w2⟩
      · rw [hp] at z
        exact Option.some.inj z
      · rw [m2] at w1 hx
        obtain ⟨j, j1, j2, j3⟩ := f_maj_i m1 w1 hx
        exact absurd (hv j j1 j3) (w2 j j1 j2).2
end STEPS
