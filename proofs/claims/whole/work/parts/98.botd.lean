/-! both calls of an operation: deliver -/
section BOTD
variable {B n : Nat} {M : xM} {C : xCC}
/-- what is known of a taken message, whichever ints go with the class's data -/
theorem dl_all {I : xI} {i k : Nat} (h2 : RelP C I) (h3 : FI B n I) (hi : i < c_w C) (hk : (C.2.2.2.2 i).1 0 = nI k) (hk2 : k ≤ 8) : ∃ G j, RelP (c_tk C i) (f_dl I i) ∧ Inv B n (f_dl I i) G ∧ (∀ r, r < 5 → iE (f_dl I i) r) ∧ RM B (f_dl I i) G k j ∧ mQ (f_dl I i) (C.2.2.2.2 i) (nI k) (f_dl I i 74 31) (I 95 i) (f_dl I i 74 32) (f_dl I i 74 33) (f_dl I i 74 34) (f_dl I i 74 35) (f_dl I i 102) (f_dl I i 103) ∧ I 93 i = nI k ∧ f_wok I ∧ i < f_w I := by
  have hiw : i < f_w I := by rw [← h2.w]; exact hi
  obtain ⟨G, hv, ho⟩ := h3
  obtain ⟨k', j, t, a1, a2, a3, a4, a5, a6, a7, a8, a9⟩ := FI.dl hv ho hiw
  have e93 : I 93 i = nI k := (h2.2.2.2 i hiw).1.symm.trans hk
  have ek : k' = k := by
    rw [a4] at e93
    exact (nI_eq (by omega) (by omega)).mp e93
  subst ek
  obtain ⟨q1, q2⟩ := h2.dl hv.1.2.2.2.1 hiw
  rw [a4] at q2
  exact ⟨G, j, q1, a7, a8, a9, q2, a4, hv.1.2.2.2.1, hiw⟩
theorem del_of (h : St B n M C) {i k r : Nat} {C2 : xCC} (hi : i < c_w C) (hr : r < 5) (hk : (C.2.2.2.2 i).1 0 = nI k) (hk2 : k ≤ 8) (hto : (C.2.2.2.2 i).1 2 = nI r) (hu : C.1 (9 + 13 * r) 3 = 1) (hrc : ∀ M1 a, Rp M1 (c_tk C i) → mgA M1 a (C.2.2.2.2 i) → Ev 9 38 M1 [.ref (9 + 13 * r), .ref a] (fun M' v => Rp M' C2 ∧ Ext 92 M1 M' ∧ v = none))
    (hx : ∀ (Z : xZ) (I : xI) (G : xGh) (j e : Nat), zok Z → RelP (c_tk C i) (f_dl I i) → Inv B n (f_dl I i) G → (∀ r, r < 5 → iE (f_dl I i) r) → RM B (f_dl I i) G k j → mQ (f_dl I i) (C.2.2.2.2 i) (nI k) (f_dl I i 74 31) (I 95 i) (f_dl I i 74 32) (f_dl I i 74 33) (f_dl I i 74 34) (f_dl I i 74 35) (f_dl I i 102) (f_dl I i 103) → f_dl I i 83 r = nI e → e ≤ 24 → ∃ J, ER Z 9 117 (f_dl I i) [.ref 74, .int (nI k), .int (nI r)] (fun I' v => I' = J ∧ v = none) ∧ Fo (f_dl I i) J ∧ Cd (f_dl I i) J ∧ RelP C2 J ∧ FI B n J) : Two B M 81 114 [.int (nI i)] := by
  refine two_of h (b := 92) (by decide) (k_del 2 h.1 hi hr hto hu hrc) (fun Z I hz h2 h3 => ?_)
  obtain ⟨G, j, d1, d2, d3, d4, d5, d6, d7, d8⟩ := dl_all h2 h3 hi hk hk2
  obtain ⟨f', e, p', c1, c2, c3, c4, c5, c6, c7, c8⟩ := d2.e hr
  obtain ⟨J, k1, k2, k3, k4, k5⟩ := hx Z I G j e hz d1 d2 d3 d4 d5 c2 c5
  have e95 : I 95 i = nI r := (h2.2.2.2 i d8).2.2.1.symm.trans hto
  have e21 : f_dl I i 74 21 = nI 0 := x_u_eq _ _ _ _
  have w1 : f_dl1 I i 74 20 = I 74 20 := f_dl1_o I i (by omega) (by omega)
  have e20 : f_dl I i 74 20 = nI (f_w I - 1) := by
    rw [f_dl, x_u_ne _ _ (by omega), f_dl2, f_rm, x_u_eq, f_w_eq w1]
  have ev : C2.1 3 1 - nI (c_w C - 1) = J 74 21 := by
    rw [Cd, e20, e21] at k3
    rw [k4.2.1, h2.w]
    exact i_cnt k3
  rw [ev]
  exact ⟨J, r_deliver 2 I d7 d8 hr e95 d6 ((up_c h2 hr).1 hu) hz k1, (Fo.dl I i).trans k2, k4, B, n, by omega, k5⟩
theorem two_deliver (h : St B n M C) (x : Int32) : Two B M 81 114 [.int x] := by
  have hw := h.1.w.2.1
  by_cases hx : x < 0 ∨ nI (c_w C) ≤ x
  · exact two_00 h (k_del_n 2 h.1 hx).1 (fun Z I hz h2 h3 => by
      obtain ⟨G, hi, ho⟩ := h3
      exact r_deliver_n 9 I hi.1.2.2.2.1 (by rw [← h2.w]; exact hx) hz)
  · obtain ⟨i, _, i2, rfl⟩ := i_rng (x := x) (a := 0) (b := c_w C) (by omega) (fun q => hx (Or.inl q)) (fun q => hx (Or.inr (i_llt q))) (by decide)
    have hi' : i < c_w C := by
      by_cases z : i = c_w C
      · exact absurd (Or.inr (by rw [z]; exact Int32.le_refl _)) hx
      · omega
    have hiw0 : i < f_w M.2.1 := by rw [← h.2.1.w]; exact hi'
    obtain ⟨G00, hi00, _⟩ := h.2.2
    obtain ⟨k, j0, r, a1, a2, a3, hr, a5, a6, a7, a8⟩ := hi00.2.2.2.2.2 i hiw0
    have hk : (C.2.2.2.2 i).1 0 = nI k := (h.2.1.2.2.2 i hiw0).1.trans a5
    have hto : (C.2.2.2.2 i).1 2 = nI r := (h.2.1.2.2.2 i hiw0).2.2.1.trans a7
    rcases up_d h hr with hu | hu
    rotate_left
    · refine two_of h (b := 0) (by decide) (k_del_d 2 h.1 hi' hr hto hu) (fun Z I hz h2 h3 => ?_)
      obtain ⟨G, j, d1, d2, d3, d4, d5, d6, d7, d8⟩ := dl_all h2 h3 hi' hk a2
      exact ⟨f_dl2 I i, r_deliver_d 7 I d7 d8 ((h2.2.2.2 i d8).2.2.1.symm.trans hto) d6 ((up_c h2 hr).2 hu) hz, Fo.dl2 I i, h2.dl2 d7 d8, B, n, by omega, h3.dl2 d8⟩
    obtain ⟨G0, j1, b1, b2, b3, b4, b5, b6, b7, b8⟩ := dl_all h.2.1 h.2.2 hi' hk a2
    obtain ⟨f0, e0, p0, c1, c2, c3, c4, c5, c6, c7, c8⟩ := b2.e hr
    obtain ⟨m0, m1, m2, m3, m5, m6, m7, m8⟩ := id b5
    have hk8 : k = 1 ∨ k = 2 ∨ k = 3 ∨ k = 4 ∨ k = 5 ∨ k = 6 ∨ k = 7 ∨ k = 8 := by omega
    rcases hk8 with rfl | rfl | rfl | rfl | rfl | rfl | rfl | rfl
    · exact del_of h hi' hr hk a2 hto hu (fun M1 a p1 p2 => k_rcv1 2 p1 hr p2 hk) (fun Z I G j e hz d1 d2 d3 d4 d5 he he2 => ⟨f_oPrep (f_dl I i) r, r_rec1 6 _ hr d2.1.2.2.2.1 hz, Fo.oPrep _ _, Cd.oPrep d2.1.2.2.2.1 r, d1.oPr d2 hr d5, FI.oPrep d2 d3 hr d4⟩)
    · obtain ⟨⟨f, f1, f2, f3⟩, V, v1, _⟩ := m7 rfl
      refine del_of h hi' hr hk a2 hto hu (fun M1 a p1 p2 => k_rcv2 2 p1 hr p2 hk v1 f3 ?_) (fun Z I G j e hz d1 d2 d3 d4 d5 he he2 => ?_)
      · exact (b1.oPo b2 hr b5 b4 f1 f2 v1 c2 c5).2
      · obtain ⟨⟨g, g1, g2, g3⟩, _⟩ := d5.2.2.2.2.2.2.1 rfl
        have eS : PS (f_dl M.2.1 i) f = PS (f_dl I i) g := Option.some.inj (f3.symm.trans g3)
        rw [eS]
        exact ⟨f_oProm (f_dl I i) r g e, r_rec2 2 _ hr g1 g2 he he2 d2.wf d2.1.2.2.2.1 hz, Fo.oProm _ _ _ _, Cd.oProm d2.1.2.2.2.1 _ _ _, (d1.oPo d2 hr d5 d4 g1 g2 v1 he he2).1, FI.oProm d2 d3 hr d4 g1 g2 he he2⟩
    · obtain ⟨s, s1, s2⟩ := b4.2.2.2.2.1 rfl
      obtain ⟨_, t1, t2, _⟩ := b2.Bq _ _ _ s2
      have es : (C.2.2.2.2 i).1 4 = nI s := by rw [← num4 hk (by decide) (by decide) (by decide) (by decide), m3, s1]
      refine del_of h hi' hr hk a2 hto hu (fun M1 a p1 p2 => k_rcv3 2 p1 hr p2 hk es t2) (fun Z I G j e hz d1 d2 d3 d4 d5 he he2 => ?_)
      have e33 : f_dl I i 74 33 = nI s := by rw [← d5.2.2.2.1, num4 hk (by decide) (by decide) (by decide) (by decide), es]
      exact ⟨f_oAcc (f_dl I i) r s, r_rec3 6 _ hr e33 t2 d2.1.2.2.2.1 hz, Fo.oAcc _ _ _, Cd.oAcc d2.1.2.2.2.1 _ _, d1.oAc d2 hr d5 e33 t1 t2, FI.oAcc d2 d3 hr d4 e33 t2⟩
    · obtain ⟨s, s1, s2⟩ := b4.2.2.2.2.2.1 rfl
      obtain ⟨_, _, c', s3⟩ := b2.A _ _ _ s2
      obtain ⟨_, t1, t2, _⟩ := b2.Bq _ _ _ s3
      have es : (C.2.2.2.2 i).1 4 = nI s := by rw [← num4 hk (by decide) (by decide) (by decide) (by decide), m3, s1]
      refine del_of h hi' hr hk a2 hto hu (fun M1 a p1 p2 => k_rcv4 2 p1 hr p2 hk es t2 ?_) (fun Z I G j e hz d1 d2 d3 d4 d5 he he2 => ?_)
      · exact (b1.oVo b2 hr b5 b4 s1 t2 c2 c5).2
      · have e33 : f_dl I i 74 33 = nI s := by rw [← d5.2.2.2.1, num4 hk (by decide) (by decide) (by decide) (by decide), es]
        refine ⟨f_oVot (f_dl I i) r s e, r_rec4 2 _ hr e33 t2 he he2 d2.wf d2.1.2.2.2.1 ?_ hz, Fo.oVot _ _ _ _, Cd.oVot d2.1.2.2.2.1 _ _ _, (d1.oVo d2 hr d5 d4 e33 t2 he he2).1, FI.oVot d2 d3 hr d4 e33 t2 he he2⟩
        rcases (d2.R hr).2.2.2.2.1 s t1 t2 with z | ⟨q, q1, q2, q3⟩
        · exact Or.inl z
        · exact Or.inr ⟨q, q1, by have := d2.rq.1; omega, q3⟩
    · obtain ⟨s, s1, t1, t2, s4, s5⟩ := b4.2.2.2.2.2.2.1 rfl
      have es : (C.2.2.2.2 i).1 4 = nI s := by rw [← num4 hk (by decide) (by decide) (by decide) (by decide), m3, s1]
      refine del_of h hi' hr hk a2 hto hu (fun M1 a p1 p2 => k_rcv5 2 p1 hr p2 hk es t2 ?_) (fun Z I G j e hz d1 d2 d3 d4 d5 he he2 => ?_)
      · exact (b1.oLe b2 hr b5 s1 t1 t2 s4 s5 c2 c5).2
      · have e33 : f_dl I i 74 33 = nI s := by rw [← d5.2.2.2.1, num4 hk (by decide) (by decide) (by decide) (by decide), es]
        obtain ⟨s', u1, u2, u3, u4, u5⟩ := d4.2.2.2.2.2.2.1 rfl
        have ess : s = s' := by
          rw [e33] at u1
          exact (nI_eq (by omega) (by omega)).mp u1
        subst ess
        exact ⟨f_oLearn (f_dl I i) r s e, r_rec5 2 _ hr e33 t2 he he2 d2.wf d2.1.2.2.2.1 hz, Fo.oLearn _ _ _ _, Cd.oLearn d2.1.2.2.2.1 _ _ _, (d1.oLe d2 hr d5 e33 t1 t2 u4 u5 he he2).1, FI.oLearn d2 d3 hr d4 e33 t2 he he2⟩
    · exact del_of h hi' hr hk a2 hto hu (fun M1 a p1 p2 => k_rcv6 2 p1 hr p2 hk) (fun Z I G j e hz d1 d2 d3 d4 d5 he he2 => ⟨f_oRef (f_dl I i) r, r_rec6 8 _ hr hz, Fo.oRef _ _, Cd.oRef _ _, d1.oRe hr d5, FI.oRef d2 d3 hr d4⟩)
    · obtain ⟨s, t2, s1⟩ := b4.2.2.2.2.2.2.2.1 rfl
      have es : (C.2.2.2.2 i).1 4 = nI s := by rw [← num4 hk (by decide) (by decide) (by decide) (by decide), m3, s1]
      refine del_of h hi' hr hk a2 hto hu (fun M1 a p1 p2 => k_rcv7 2 p1 hr p2 hk es t2) (fun Z I G j e hz d1 d2 d3 d4 d5 he he2 => ?_)
      have e33 : f_dl I i 74 33 = nI s := by rw [← d5.2.2.2.1, num4 hk (by decide) (by decide) (by decide) (by decide), es]
      exact ⟨f_oFet (f_dl I i) r, r_rec7 7 _ hr d2.1.2.2.2.1 hz, Fo.oFet _ _, Cd.oFet d2.1.2.2.2.1 _, d1.oFe d2 hr d5 e33 t2, FI.oFet d2 d3 hr d4⟩
    · obtain ⟨f, f1, f2, f3⟩ := m8 rfl
      obtain ⟨f9, l1, l2, l3⟩ := b4.2.2.2.2.2.2.2.2 rfl
      have ef9 : f = f9 := by
        rw [f1] at l2
        exact (nI_eq (by omega) (by omega)).mp l2
      subst ef9
      refine del_of h hi' hr hk a2 hto hu (fun M1 a p1 p2 => k_rcv8 2 p1 hr p2 hk f3 ?_) (fun Z I G j e hz d1 d2 d3 d4 d5 he he2 => ?_)
      · exact (b1.oSt b2 hr f2 l3 c2 c5).2
      · obtain ⟨g, g1, g2, g3⟩ := d5.2.2.2.2.2.2.2 rfl
        obtain ⟨g9, w1, w2, w3⟩ := d4.2.2.2.2.2.2.2.2 rfl
        have eg : g = g9 := by
          rw [g1] at w2
          exact (nI_eq (by omega) (by omega)).mp w2
        subst eg
        have eS : PS (f_dl M.2.1 i) f = PS (f_dl I i) g := Option.some.inj (f3.symm.trans g3)
        rw [eS]
        exact ⟨f_oSta (f_dl I i) r g e, r_rec8 3 _ hr g1 g2 he he2 d2.wf d2.1.2.2.2.1 hz, Fo.oSta _ _ _ _, Cd.oSta d2.1.2.2.2.1 _ _ _, (d1.oSt d2 hr g2 w3 he he2).1, FI.oSta d2 d3 hr d4 g1 g2 he he2⟩
end BOTD
